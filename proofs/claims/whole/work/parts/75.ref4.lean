/-! ===== the reference's sound: a TONE comes just where it can ===== -/
theorem nar3_n0 : pm_nar 3 (nI 0) = nI 0 := by decide +kernel
theorem nar3_n1 : pm_nar 3 (nI 1) = nI 1 := by decide +kernel
def cn1 (f : Nat → Int32) : Nat → Nat
  | 0 => 0
  | n + 1 => cn1 f n + if f n = nI 1 then 1 else 0
theorem cn1_le {f : Nat → Int32} : ∀ n, cn1 f n ≤ n := by
  intro n
  induction n with
  | zero => exact Nat.le_refl 0
  | succ n ih =>
    simp only [cn1]
    split <;> omega
theorem cn1_up0 {f : Nat → Int32} {j : Nat} : ∀ n, n ≤ j → cn1 (upd f j (nI 1)) n = cn1 f n := by
  intro n
  induction n with
  | zero => intro _; rfl
  | succ n ih =>
    intro h
    simp only [cn1]
    rw [ih (by omega), pk_un (by omega)]
theorem cn1_up {f : Nat → Int32} {j : Nat} (hf : f j ≠ nI 1) : ∀ n, j < n → cn1 (upd f j (nI 1)) n = cn1 f n + 1 := by
  intro n
  induction n with
  | zero => intro h; omega
  | succ n ih =>
    intro h
    simp only [cn1]
    by_cases e : j = n
    · subst e
      rw [cn1_up0 j (Nat.le_refl _), pk_us, if_pos rfl, if_neg hf]
    · rw [ih (by omega), pk_un (fun z => e z.symm)]
      omega
def BB (s : mst) : Prop := ∀ q, q < 462 → s.1 109 q = nI 0 ∨ s.1 109 q = nI 1
section SND
variable {N t w wet : Nat} {s : mst} {A : AP} {b : Nat × Nat}
theorem r_links {i j : Nat} (hi : i < 462) (hj : j < 462) (hb : BB s) : ∃ r s', G_M_links N s (nI i) (nI j) = some (r, s') ∧ Md [109] [] s s' ∧ BB s' ∧ ((r = nI 0 ∧ s' = s ∧ s.1 109 i = s.1 109 j) ∨ (r = nI 1 ∧ s.1 109 i ≠ s.1 109 j ∧ (∀ q, s'.1 109 q = if q = i ∨ q = j then nI 1 else s.1 109 q) ∧ cn1 (s'.1 109) 462 = cn1 (s.1 109) 462 + 1)) := by
  unfold G_M_links G_M_links_20 G_M_links_39
  rw [rdA_nI hi (by decide), Option.bind_some, rdA_nI hj (by decide), Option.bind_some]
  by_cases h : s.1 109 i = s.1 109 j
  · rw [if_pos h, if_pos rfl, if_pos (Or.inl rfl)]
    exact ⟨nI 0, s, rfl, Md_r, hb, Or.inl ⟨rfl, rfl, h⟩⟩
  · rw [if_neg h, if_neg (by decide), stZ_nI hi (by decide), Option.bind_some, stZ_nI hj (by decide), Option.bind_some, if_pos (Or.inr rfl), L_1, nar3_n1]
    have hv : ∀ q, (wr1 (wr1 s 109 i (nI 1)) 109 j (nI 1)).1 109 q = if q = i ∨ q = j then nI 1 else s.1 109 q := by
      intro q
      rw [wr1_at, wr1_at]
      by_cases h1 : q = j
      · rw [if_pos h1, if_pos (Or.inr h1)]
      · rw [if_neg h1]
        by_cases h2 : q = i
        · rw [if_pos h2, if_pos (Or.inl h2)]
        · rw [if_neg h2, if_neg (by omega)]
    refine ⟨nI 1, _, rfl, Md_t (Md_w (by decide) (by decide)) (Md_w (by decide) (by decide)), fun q hq => ?_, Or.inr ⟨rfl, h, hv, ?_⟩⟩
    · rw [hv q]
      split
      · exact Or.inr rfl
      · exact hb q hq
    · have e1 : (wr1 (wr1 s 109 i (nI 1)) 109 j (nI 1)).1 109 = upd (upd (s.1 109) i (nI 1)) j (nI 1) := by
        funext q
        rw [wr1_at, wr1_at]
        rfl
      have hij : i ≠ j := fun z => h (by rw [z])
      rw [e1]
      rcases hb i hi with a | a
      · have b1 : s.1 109 j = nI 1 := by
          rcases hb j hj with z | z
          · rw [a, z] at h; exact absurd rfl h
          · exact z
        have : upd (upd (s.1 109) i (nI 1)) j (nI 1) = upd (s.1 109) i (nI 1) := by
          funext q
          rw [upd_g]
          split
          · rename_i hq
            rw [hq, pk_un (fun z => hij z.symm), b1]
          · rfl
        rw [this, cn1_up (by rw [a]; decide) 462 hi]
      · have b1 : s.1 109 j = nI 0 := by
          rcases hb j hj with z | z
          · exact z
          · rw [a, z] at h; exact absurd rfl h
        have : upd (s.1 109) i (nI 1) = s.1 109 := by
          funext q
          rw [upd_g]
          split
          · rename_i hq
            rw [hq, a]
          · rfl
        rw [this, cn1_up (by rw [b1]; decide) 462 hj]
/-- steps of the tone -/
theorem q_R_E {v a c : Nat} (h : q_E A w b wet a c) : q_R A w b wet v a ↔ q_R A w b wet v c := by
  constructor
  · intro hr P h0 hE
    exact (hE a c h).mp (hr P h0 hE)
  · intro hr P h0 hE
    exact (hE a c h).mpr (hr P h0 hE)
theorem q_R_0 {v : Nat} : q_R A w b wet v v := fun _ h _ => h
theorem nk10 (hG : GW A w b wet) {u d : Nat} : q_nk A w b u d ≤ 10 := q_nk_le hG.1 (by rcases hG.2.2.2 with z | z; exact Or.inl z; exact Or.inr z.1)
theorem nok_mk {u i : Nat} (hu : q_st A u) (hi : i ≤ 10) : nok A (16 * u + i) := ⟨by rw [show (16 * u + i) / 16 = u by omega]; exact hu, by omega⟩
/-- a joint's ends -/
theorem q_on_v (hA : WF A) {u : Nat} : q_on A w u = 0 ∨ q_st A (q_on A w u - 1) := (LV_lw hA w (q_ns A) (Nat.le_refl _) u).1
theorem q_E_nok (hG : GW A w b wet) {a c : Nat} (h : q_E A w b wet a c) : nok A a ∧ nok A c := by
  have hA := hG.1
  rcases h with ⟨u, hu, hne, rfl, hc⟩ | ⟨_, x, y, d, ⟨k, hk, hi, rfl, rfl, rfl⟩, rfl, rfl⟩
  · refine ⟨nok_mk hu (nk10 hG), ?_⟩
    have := (q_on_v hA (w := w) (u := q_out A w u)).resolve_left hne
    rw [show c = 16 * (q_on A w (q_out A w u) - 1) + 0 by omega]
    exact nok_mk this (by omega)
  · obtain ⟨h1, h2, _⟩ := q_abst hA hk (Or.inr hi.2)
    exact ⟨nok_mk h1 (nk10 hG), nok_mk h2 (nk10 hG)⟩
/-- within a pass from s1: the flag x2, the state s', the links Pr that were looked at -/
def PS (A : AP) (w : Nat) (b : Nat × Nat) (wet v0 : Nat) (s s1 : mst) (x2 : Int32) (s' : mst) (Pr : Nat → Nat → Prop) : Prop := Md [109] [] s s' ∧ BB s' ∧ s'.1 109 (nm v0) = nI 1 ∧ (∀ v, nok A v → s'.1 109 (nm v) = nI 1 → q_R A w b wet v0 v) ∧ ((x2 = nI 0 ∧ s'.1 109 = s1.1 109 ∧ ∀ a c, Pr a c → s'.1 109 (nm a) = s'.1 109 (nm c)) ∨ (x2 = nI 1 ∧ cn1 (s1.1 109) 462 < cn1 (s'.1 109) 462))
theorem PS_m {v0 : Nat} {s1 s' : mst} {x2 : Int32} {Pr Pr' : Nat → Nat → Prop} (h : PS A w b wet v0 s s1 x2 s' Pr) (hp : ∀ a c, Pr' a c → Pr a c) : PS A w b wet v0 s s1 x2 s' Pr' := by
  obtain ⟨h1, h2, h3, h4, h5⟩ := h
  refine ⟨h1, h2, h3, h4, ?_⟩
  rcases h5 with ⟨a, c, d⟩ | h5
  · exact Or.inl ⟨a, c, fun x y z => d x y (hp x y z)⟩
  · exact Or.inr h5
theorem r_link (hG : GW A w b wet) {v0 a c : Nat} {s1 s' : mst} {x2 : Int32} {Pr : Nat → Nat → Prop} (h : PS A w b wet v0 s s1 x2 s' Pr) (he : q_E A w b wet a c) : ∃ r s'', G_M_links N s' (nI (nm a)) (nI (nm c)) = some (r, s'') ∧ ((r = nI 0 ∧ PS A w b wet v0 s s1 x2 s'' (fun x y => Pr x y ∨ (x = a ∧ y = c))) ∨ (r = nI 1 ∧ ∀ Pr', PS A w b wet v0 s s1 (nI 1) s'' Pr')) := by
  obtain ⟨h1, h2, h3, h4, h5⟩ := h
  obtain ⟨na, nc⟩ := q_E_nok hG he
  have hA := hG.1
  obtain ⟨r, s'', e, m, bb, hc⟩ := r_links (N := N) (s := s') (nm_lt hA na) (nm_lt hA nc) h2
  refine ⟨r, s'', e, ?_⟩
  rcases hc with ⟨rfl, rfl, heq⟩ | ⟨rfl, hne, hv, hcn⟩
  · refine Or.inl ⟨rfl, h1, h2, h3, h4, ?_⟩
    rcases h5 with ⟨g1, g2, g3⟩ | h5
    · refine Or.inl ⟨g1, g2, fun x y z => ?_⟩
      rcases z with z | ⟨rfl, rfl⟩
      · exact g3 x y z
      · exact heq
    · exact Or.inr h5
  · refine Or.inr ⟨rfl, fun Pr' => ⟨Md_t h1 m, bb, ?_, fun v hv1 hv2 => ?_, Or.inr ⟨rfl, ?_⟩⟩⟩
    · rw [hv]
      split
      · rfl
      · exact h3
    · rw [hv] at hv2
      have hor : q_R A w b wet v0 a ∧ q_R A w b wet v0 c := by
        have hx := h2 (nm a) (nm_lt hA na)
        have hy := h2 (nm c) (nm_lt hA nc)
        rcases hx with hx | hx
        · rcases hy with hy | hy
          · rw [hx, hy] at hne; exact absurd rfl hne
          · have := h4 c nc hy
            exact ⟨(q_R_E he).mpr this, this⟩
        · have := h4 a na hx
          exact ⟨this, (q_R_E he).mp this⟩
      by_cases hq : nm v = nm a ∨ nm v = nm c
      · rcases hq with hq | hq
        · rw [nm_inj hA hv1 na hq]; exact hor.1
        · rw [nm_inj hA hv1 nc hq]; exact hor.2
      · rw [if_neg hq] at hv2
        exact h4 v hv1 hv2
    · rw [hcn]
      rcases h5 with ⟨_, g2, _⟩ | h5
      · rw [g2]; omega
      · have := h5.2; omega
/-- joints looked at: of CABLES below x, of CABLE x below n -/
def F1 (A : AP) (w : Nat) (b : Nat × Nat) (x n : Nat) (a c : Nat) : Prop := ∃ x' n', (x' < x ∨ (x' = x ∧ n' < n)) ∧ x' < q_nc A ∧ n' < q_pr A x' ∧ q_on A w (8 * x' + n') ≠ 0 ∧ a = q_nd A w b (8 * x' + n') 1 ∧ c + 16 = 16 * q_on A w (8 * x' + n')
def F2 (A : AP) (w : Nat) (b : Nat × Nat) (k : Nat) (a c : Nat) : Prop := ∃ k', k' < k ∧ q_is A w k' 2 ∧ a = 16 * q_a A k' + q_nk A w b (q_a A k') (q_td A k') ∧ c = 16 * q_b A k' + q_nk A w b (q_b A k') (q_td A k')
theorem st_mk {x n : Nat} (hA : WF A) (hx : x < q_nc A) (hn : n < q_pr A x) : q_st A (8 * x + n) ∧ (8 * x + n) / 8 = x ∧ (8 * x + n) % 8 = n := by
  have := hA.2.1 x hx
  have e1 : (8 * x + n) / 8 = x := by omega
  have e2 : (8 * x + n) % 8 = n := by omega
  exact ⟨⟨by rw [e1]; exact hx, by rw [e1, e2]; exact hn⟩, e1, e2⟩
theorem q_E_1 (hG : GW A w b wet) {x n c : Nat} (hx : x < q_nc A) (hn : n < q_pr A x) (h0 : q_on A w (8 * x + n) ≠ 0) (hc : c + 16 = 16 * q_on A w (8 * x + n)) : q_E A w b wet (q_nd A w b (8 * x + n) 1) c := by
  have hA := hG.1
  obtain ⟨h1, h2, h3⟩ := st_mk hA hx hn
  left
  refine ⟨q_in A w (8 * x + n), (q_in_st hA).1.mpr h1, ?_, ?_, ?_⟩
  · rw [q_out_in]; exact h0
  · unfold q_nd
    rw [if_neg (by decide), (q_in_st hA).2]
  · rw [q_out_in]; exact hc
theorem q_E_of (hG : GW A w b wet) {a c : Nat} (h : q_E A w b wet a c) : F1 A w b (q_nc A) 0 a c ∨ (wet = 1 ∧ F2 A w b (q_nt A) a c) := by
  have hA := hG.1
  rcases h with ⟨u, hu, hne, rfl, hc⟩ | ⟨hw, x, y, d, ⟨k, hk, hi, rfl, rfl, rfl⟩, rfl, rfl⟩
  · left
    have ho := q_out_st hA (w := w) (s := u)
    have hou := ho.1.mpr hu
    refine ⟨q_out A w u / 8, q_out A w u % 8, Or.inl hou.1, hou.1, hou.2, ?_, ?_, ?_⟩
    · rw [show 8 * (q_out A w u / 8) + q_out A w u % 8 = q_out A w u by omega]; exact hne
    · rw [show 8 * (q_out A w u / 8) + q_out A w u % 8 = q_out A w u by omega]
      unfold q_nd
      rw [if_neg (by decide), q_in_out, ho.2]
    · rw [show 8 * (q_out A w u / 8) + q_out A w u % 8 = q_out A w u by omega]; exact hc
  · exact Or.inr ⟨hw, k, hk, hi, rfl, rfl⟩
theorem r_s55 (hN : 100 ≤ N) (ht : t < 6) (hG : GW A w b wet) (hR : RP s t A) (hW : RW s t A w b wet) {v0 x : Nat} (hx : x < q_nc A) {s1 s' : mst} {x2 : Int32} (h : PS A w b wet v0 s s1 x2 s' (F1 A w b x 0)) (rc : Int32 → mst → Option mst) (rd : Int32 → Int32 → mst → Option mst) : ∃ x2' s'', G_M_sound_55 N rc rd (nI x) N x2 (nI 0) s' = rd x2' (nI (x + 1)) s'' ∧ PS A w b wet v0 s s1 x2' s'' (F1 A w b (x + 1) 0) := by
  have hA := hG.1
  have hc := hA.1
  unfold WFc at hc
  have hxx := hA.2.1 x hx
  refine Exists.elim (lpE (F := fun f n (z : Int32 × mst) => G_M_sound_55 N rc rd (nI x) f z.1 (nI n) z.2) (n := q_pr A x) (I := fun n z => PS A w b wet v0 s s1 z.1 z.2 (F1 A w b x n)) ?_ N 0 (x2, s') (by omega) (by omega) h) ?_
  rotate_left
  · intro f hlp
    obtain ⟨⟨y2, s2⟩, hI, e⟩ := hlp
    have R2 : RP s2 t A := RP_md hR hI.1 (by decide)
    have W2 : RW s2 t A w b wet := RW_md hW hI.1 (by decide) (by decide)
    have e0 := W2.1
    have e1 := rp_pr R2 hx
    refine ⟨y2, s2, ?_, PS_m hI ?_⟩
    · refine Eq.trans e ?_
      simp (disch := omega) only [G_M_sound_55, GB_M_sound_55, G_M_sound_130, L_0, L_1, L_2, L_3, L_4, L_5, L_6, L_7, L_8, L_9, L_10, L_11, L_12, L_15, L_16, L_20, L_24, L_26, L_31, L_32, L_42, L_48, L_56, L_57, L_59, L_60, L_97, L_98, L_99, L_104, L_106, L_255, L_300, L_462, L_616, neg1, nI_add, nI_mul, pk_div, pk_sub, nI_or, nI_shr, nI_shl, nI_and1, nI_leI, nI_ltI, nI_eq, cd_eq, cd_nI, nI_cd, rdA_nI, stA_nI, wrI_1, Option.bind_some, Option.map_some, Option.bind_none, if_true, if_false, e0, e1]
      rw [if_pos (by omega)]
    · intro a c ⟨x', n', hlt, h1, h2, h3⟩
      refine ⟨x', n', ?_, h1, h2, h3⟩
      by_cases hxe : x' = x
      · subst hxe
        exact Or.inr ⟨rfl, h2⟩
      · exact Or.inl (by omega)
  · intro f n ⟨z2, z⟩ hn hI
    have R2 : RP z t A := RP_md hR hI.1 (by decide)
    have W2 : RW z t A w b wet := RW_md hW hI.1 (by decide) (by decide)
    have e0 := W2.1
    have e1 := rp_pr R2 hx
    have hv := q_on_v hA (w := w) (u := 8 * x + n)
    have hv2 := r6_le hA hv
    have e2 : z.1 106 (6 * x + n) = cd (r6 (q_on A w (8 * x + n))) := by
      rw [(W2.2.2.2.2.2.1 (6 * x + n) (by omega)).1, show s8 (6 * x + n) = 8 * x + n by unfold s8; omega]
      rfl
    obtain ⟨hst, hs1, hs2⟩ := st_mk hA hx hn
    by_cases h0 : q_on A w (8 * x + n) = 0
    · rw [h0, r6_0, cd_0] at e2
      simp (disch := omega) only [G_M_sound_55, GB_M_sound_55, G_M_sound_124, L_2, L_3, L_4, L_5, L_6, L_7, L_8, L_9, L_10, L_11, L_12, L_15, L_16, L_20, L_24, L_26, L_31, L_32, L_42, L_48, L_56, L_57, L_59, L_60, L_97, L_98, L_99, L_104, L_106, L_255, L_300, L_462, L_616, nI_0, nI_1, nI_add, nI_mul, pk_div, pk_sub, nI_or, nI_shr, nI_leI, nI_ltI, nI_eq, cd_eq, cd_nI, nI_cd, nI_n1, cd_n1, rdA_nI, stA_nI, wrI_1, Option.bind_some, Option.map_some, Option.bind_none, if_true, if_false, e0, e1, e2]
      rw [if_neg (by omega)]
      refine ⟨(z2, z), PS_m hI ?_, rfl⟩
      intro a c ⟨x', n', hlt, h1, h2, h3, h4⟩
      refine ⟨x', n', ?_, h1, h2, h3, h4⟩
      rcases hlt with hlt | ⟨rfl, hlt⟩
      · exact Or.inl hlt
      · refine Or.inr ⟨rfl, ?_⟩
        by_cases hne : n' = n
        · subst hne; exact absurd h0 h3
        · omega
    · obtain ⟨y, hy⟩ : ∃ y, q_on A w (8 * x + n) = y + 1 := ⟨q_on A w (8 * x + n) - 1, by omega⟩
      have hys : q_st A y := by
        have := hv.resolve_left h0
        rw [hy, Nat.add_sub_cancel] at this
        exact this
      have hyl := q_st_lt hA hys
      rw [hy, r6_s, cd_s] at e2
      have he : q_E A w b wet (q_nd A w b (8 * x + n) 1) (16 * y) := q_E_1 hG hx hn h0 (by omega)
      obtain ⟨r, z', f1, hz⟩ := r_link (N := N) hG hI he
      have f2 := r_far hN ht hG R2 W2 hx hn
      have f3 : ∀ st, G_M_nearNode N st (nI ((6 * (y / 8) + y % 8) / 6)) (nI ((6 * (y / 8) + y % 8) % 6)) = some (nI (nm (16 * y)), st) := by
        intro st
        rw [show (6 * (y / 8) + y % 8) / 6 = y / 8 by omega, show (6 * (y / 8) + y % 8) % 6 = y % 8 by omega, r_near (by omega), show 8 * (y / 8) + y % 8 = y by omega]
      have hst : G_M_sound_55 N rc rd (nI x) (f + 1) z2 (nI n) z = if r = 0 then G_M_sound_55 N rc rd (nI x) f z2 (nI (n + 1)) z' else G_M_sound_55 N rc rd (nI x) f 1 (nI (n + 1)) z' := by
        show GB_M_sound_55 N rc rd (G_M_sound_55 N rc rd (nI x) f) (nI x) z2 (nI n) z = _
        unfold GB_M_sound_55 G_M_sound_124
        rw [e0, L_7, nI_mul, nI_add, rdA_nI (by omega) (by decide), Option.bind_some, e1, if_neg (nI_ge hn (by omega)), L_6, nI_mul, nI_add, rdA_nI (by omega) (by decide), Option.bind_some, e2, if_neg (nI_n1 (by omega)), f2, Option.bind_some, pk_rem (by omega) (by omega) (by omega), pk_div (by omega) (by omega) (by omega), f3, Option.bind_some]
        dsimp only
        rw [f1, Option.bind_some, nI_1]
      rw [hst]
      rcases hz with ⟨rfl, hz⟩ | ⟨rfl, hz⟩
      · rw [if_pos nI_0]
        refine ⟨(z2, z'), PS_m hz ?_, rfl⟩
        intro a c ⟨x', n', hlt, h1, h2, h3, h4, h5⟩
        by_cases hne : x' = x ∧ n' = n
        · obtain ⟨rfl, rfl⟩ := hne
          exact Or.inr ⟨h4, by omega⟩
        · exact Or.inl ⟨x', n', by omega, h1, h2, h3, h4, h5⟩
      · rw [if_neg (by decide), L_1]
        exact ⟨(nI 1, z'), hz _, rfl⟩
theorem r_s39 (hN : 100 ≤ N) (ht : t < 6) (hG : GW A w b wet) (hR : RP s t A) (hW : RW s t A w b wet) {v0 : Nat} {s1 s' : mst} {x2 : Int32} (h : PS A w b wet v0 s s1 x2 s' (F1 A w b 0 0)) (rc : Int32 → mst → Option mst) : ∃ x2' s'', G_M_sound_39 N rc N x2 (nI 0) s' = G_M_sound_136 N rc x2' s'' ∧ PS A w b wet v0 s s1 x2' s'' (F1 A w b (q_nc A) 0) := by
  have hA := hG.1
  have hc := hA.1
  unfold WFc at hc
  refine Exists.elim (lpE (F := fun f x (z : Int32 × mst) => G_M_sound_39 N rc f z.1 (nI x) z.2) (n := q_nc A) (I := fun x z => PS A w b wet v0 s s1 z.1 z.2 (F1 A w b x 0)) ?_ N 0 (x2, s') (by omega) (by omega) h) ?_
  rotate_left
  · intro f hlp
    obtain ⟨⟨y2, s2⟩, hI, e⟩ := hlp
    have R2 : RP s2 t A := RP_md hR hI.1 (by decide)
    have W2 : RW s2 t A w b wet := RW_md hW hI.1 (by decide) (by decide)
    have e0 := W2.1
    have e1 := rp_nc R2
    refine ⟨y2, s2, ?_, hI⟩
    refine Eq.trans e ?_
    simp (disch := omega) only [G_M_sound_39, GB_M_sound_39, L_0, L_1, L_2, L_3, L_4, L_5, L_6, L_7, L_8, L_9, L_10, L_11, L_12, L_15, L_16, L_20, L_24, L_26, L_31, L_32, L_42, L_48, L_56, L_57, L_59, L_60, L_97, L_98, L_99, L_104, L_106, L_255, L_300, L_462, L_616, neg1, nI_add, nI_mul, pk_div, pk_sub, nI_or, nI_shr, nI_shl, nI_and1, nI_leI, nI_ltI, nI_eq, cd_eq, cd_nI, nI_cd, rdA_nI, stA_nI, wrI_1, Option.bind_some, Option.map_some, Option.bind_none, if_true, if_false, e0, e1]
    rw [if_pos (by omega)]
  · intro f x ⟨z2, z⟩ hx hI
    have R2 : RP z t A := RP_md hR hI.1 (by decide)
    have W2 : RW z t A w b wet := RW_md hW hI.1 (by decide) (by decide)
    have e0 := W2.1
    have e1 := rp_nc R2
    obtain ⟨x2', s'', g1, g2⟩ := r_s55 hN ht hG hR hW hx hI rc (G_M_sound_39 N rc f)
    simp (disch := omega) only [G_M_sound_39, GB_M_sound_39, L_0, L_1, L_2, L_3, L_4, L_5, L_6, L_7, L_8, L_9, L_10, L_11, L_12, L_15, L_16, L_20, L_24, L_26, L_31, L_32, L_42, L_48, L_56, L_57, L_59, L_60, L_97, L_98, L_99, L_104, L_106, L_255, L_300, L_462, L_616, neg1, nI_add, nI_mul, pk_div, pk_sub, nI_or, nI_shr, nI_shl, nI_and1, nI_leI, nI_ltI, nI_eq, cd_eq, cd_nI, nI_cd, rdA_nI, stA_nI, wrI_1, Option.bind_some, Option.map_some, Option.bind_none, if_true, if_false, e0, e1]
    rw [if_neg (by omega)]
    exact ⟨(x2', s''), g2, g1⟩
theorem r_s138 (hN : 100 ≤ N) (ht : t < 6) (hG : GW A w b wet) (hR : RP s t A) (hW : RW s t A w b wet) {v0 : Nat} {s1 s' : mst} {x2 : Int32} (h : PS A w b wet v0 s s1 x2 s' (F1 A w b (q_nc A) 0)) (rc : Int32 → mst → Option mst) : ∃ x2' s'', G_M_sound_136 N rc x2 s' = rc x2' s'' ∧ PS A w b wet v0 s s1 x2' s'' (q_E A w b wet) := by
  have hA := hG.1
  have hc := hA.1
  unfold WFc at hc
  have hG' := hG
  obtain ⟨_, hw, hwet, _⟩ := hG
  unfold G_M_sound_136
  by_cases hwz : wet = 0
  · have R2 : RP s' t A := RP_md hR h.1 (by decide)
    have W2 : RW s' t A w b wet := RW_md hW h.1 (by decide) (by decide)
    have e0 := W2.1
    have e1 := rp_nt R2
    have e2 := W2.2.2.1
    rw [hwz] at e2
    refine ⟨x2, s', ?_, PS_m h ?_⟩
    · obtain ⟨M, rfl⟩ : ∃ M, N = M + 1 := ⟨N - 1, by omega⟩
      simp (disch := omega) only [G_M_sound_138, GB_M_sound_138, G_M_sound_279, L_0, L_1, L_2, L_3, L_4, L_5, L_6, L_7, L_8, L_9, L_10, L_11, L_12, L_15, L_16, L_20, L_24, L_26, L_31, L_32, L_42, L_48, L_56, L_57, L_59, L_60, L_97, L_98, L_99, L_104, L_106, L_255, L_300, L_462, L_616, neg1, nI_add, nI_mul, pk_div, pk_sub, nI_or, nI_shr, nI_shl, nI_and1, nI_leI, nI_ltI, nI_eq, cd_eq, cd_nI, nI_cd, rdA_nI, stA_nI, wrI_1, Option.bind_some, Option.map_some, Option.bind_none, if_true, if_false, e0, e1, e2]
      split <;> rfl
    · intro a c z
      rcases q_E_of hG' z with z | ⟨z, _⟩
      · exact z
      · omega
  · have hw1 : wet = 1 := by omega
    refine Exists.elim (lpE (F := fun f k (z : Int32 × mst) => G_M_sound_138 N rc f z.1 (nI k) z.2) (n := q_nt A) (I := fun k z => PS A w b wet v0 s s1 z.1 z.2 (fun a c => F1 A w b (q_nc A) 0 a c ∨ F2 A w b k a c)) ?_ N 0 (x2, s') (by omega) (by omega) (PS_m h (fun a c z => by rcases z with z | ⟨k', hk', _⟩; exact z; omega))) ?_
    rotate_left
    · intro f hlp
      obtain ⟨⟨y2, s2⟩, hI, e⟩ := hlp
      have R2 : RP s2 t A := RP_md hR hI.1 (by decide)
      have W2 : RW s2 t A w b wet := RW_md hW hI.1 (by decide) (by decide)
      have e0 := W2.1
      have e1 := rp_nt R2
      refine ⟨y2, s2, ?_, PS_m hI ?_⟩
      · refine Eq.trans e ?_
        simp (disch := omega) only [G_M_sound_138, GB_M_sound_138, G_M_sound_279, L_0, L_1, L_2, L_3, L_4, L_5, L_6, L_7, L_8, L_9, L_10, L_11, L_12, L_15, L_16, L_20, L_24, L_26, L_31, L_32, L_42, L_48, L_56, L_57, L_59, L_60, L_97, L_98, L_99, L_104, L_106, L_255, L_300, L_462, L_616, neg1, nI_add, nI_mul, pk_div, pk_sub, nI_or, nI_shr, nI_shl, nI_and1, nI_leI, nI_ltI, nI_eq, cd_eq, cd_nI, nI_cd, rdA_nI, stA_nI, wrI_1, Option.bind_some, Option.map_some, Option.bind_none, if_true, if_false, e0, e1]
        rw [if_pos (by omega)]
      · intro a c z
        rcases q_E_of hG' z with z | ⟨_, z⟩
        · exact Or.inl z
        · exact Or.inr z
    · intro f k ⟨z2, z⟩ hk hI
      have R2 : RP z t A := RP_md hR hI.1 (by decide)
      have W2 : RW z t A w b wet := RW_md hW hI.1 (by decide) (by decide)
      have e0 := W2.1
      have e1 := rp_nt R2
      have e2 := W2.2.2.1
      have e3 := rp_tk R2 hk
      have e4 := rp_tx R2 hk
      have htk := hA.2.2.2.2.1 k hk
      have hmono : ∀ (hno : ¬ q_is A w k 2), PS A w b wet v0 s s1 z2 z (fun a c => F1 A w b (q_nc A) 0 a c ∨ F2 A w b (k + 1) a c) := by
        intro hno
        refine PS_m hI (fun a c y => ?_)
        rcases y with y | ⟨k', hk', y1, y2⟩
        · exact Or.inl y
        · refine Or.inr ⟨k', ?_, y1, y2⟩
          by_cases hkk : k' = k
          · subst hkk; exact absurd y1 hno
          · omega
      by_cases hs : so w k
      · by_cases h2 : q_tk A k = 2
        · obtain ⟨a1, a2, a3, a4, a5, a6, a7⟩ := q_abst hA hk (Or.inr h2)
          have a8 := q_st_lt hA a1
          have a9 := q_st_lt hA a2
          have b1 := htk.2.2.2.2 (Or.inr h2)
          have b2 := hA.2.1 (q_tx A k) (by have := a1.1; omega)
          have b3 : q_tx A k < q_nc A := by have := a1.1; omega
          have e5 := rp_tp R2 hk (by omega)
          have e6 := rp_tq R2 hk (Or.inr h2)
          have e7 := rp_td R2 hk (Or.inr h2)
          have f1 := r_breaksTo hN ht hG' R2 W2 (x := q_tx A k) (p := q_tp A k) (d := q_td A k) b3 (by omega) (by omega)
          have f2 := r_breaksTo hN ht hG' R2 W2 (x := q_tx A k) (p := q_tq A k) (d := q_td A k) b3 (by omega) (by omega)
          have k1 : q_nk A w b (8 * q_tx A k + q_tp A k) (q_td A k) ≤ 10 := nk10 hG'
          have k2 : q_nk A w b (8 * q_tx A k + q_tq A k) (q_td A k) ≤ 10 := nk10 hG'
          have he : q_E A w b wet (16 * q_a A k + q_nk A w b (q_a A k) (q_td A k)) (16 * q_b A k + q_nk A w b (q_b A k) (q_td A k)) := Or.inr ⟨hw1, q_a A k, q_b A k, q_td A k, ⟨k, hk, ⟨hs, h2⟩, rfl, rfl, rfl⟩, rfl, rfl⟩
          obtain ⟨r, z', g1, hz⟩ := r_link (N := N) hG' hI he
          have n1 : nm (16 * q_a A k + q_nk A w b (q_a A k) (q_td A k)) = (6 * q_tx A k + q_tp A k) * 11 + q_nk A w b (8 * q_tx A k + q_tp A k) (q_td A k) := by
            show nm (16 * (8 * q_tx A k + q_tp A k) + q_nk A w b (8 * q_tx A k + q_tp A k) (q_td A k)) = _
            unfold nm
            omega
          have n2 : nm (16 * q_b A k + q_nk A w b (q_b A k) (q_td A k)) = (6 * q_tx A k + q_tq A k) * 11 + q_nk A w b (8 * q_tx A k + q_tq A k) (q_td A k) := by
            show nm (16 * (8 * q_tx A k + q_tq A k) + q_nk A w b (8 * q_tx A k + q_tq A k) (q_td A k)) = _
            unfold nm
            omega
          rw [n1, n2] at g1
          rw [hw1] at e2
          simp (disch := omega) only [G_M_sound_138, GB_M_sound_138, G_M_sound_273, G_M_node, L_0, L_1, L_2, L_3, L_4, L_5, L_6, L_7, L_8, L_9, L_10, L_11, L_12, L_15, L_16, L_20, L_24, L_26, L_31, L_32, L_42, L_48, L_56, L_57, L_59, L_60, L_97, L_98, L_99, L_104, L_106, L_255, L_300, L_462, L_616, neg1, nI_add, nI_mul, pk_div, pk_sub, nI_or, nI_shr, nI_shl, nI_and1, nI_leI, nI_ltI, nI_eq, cd_eq, cd_nI, nI_cd, rdA_nI, stA_nI, wrI_1, Option.bind_some, Option.map_some, Option.bind_none, if_true, if_false, e0, e1, e2, e3, e4, e5, e6, e7, f1, f2, g1, r_isSo_t W2.2.1 (show w < 2 ^ 31 by omega) (show k < 31 by omega) hs]
          rw [if_neg (by omega), if_neg (by omega), if_neg (by omega), if_pos h2]
          rcases hz with ⟨rfl, hz⟩ | ⟨rfl, hz⟩
          · rw [if_pos rfl]
            refine ⟨(z2, z'), PS_m hz ?_, rfl⟩
            intro a c y
            rcases y with y | ⟨k', hk', y1, y2, y3⟩
            · exact Or.inl (Or.inl y)
            · by_cases hkk : k' = k
              · subst hkk
                exact Or.inr ⟨y2, y3⟩
              · exact Or.inl (Or.inr ⟨k', by omega, y1, y2, y3⟩)
          · rw [if_neg (by decide)]
            exact ⟨(nI 1, z'), hz _, rfl⟩
        · rw [hw1] at e2
          simp (disch := omega) only [G_M_sound_138, GB_M_sound_138, G_M_sound_273, L_0, L_1, L_2, L_3, L_4, L_5, L_6, L_7, L_8, L_9, L_10, L_11, L_12, L_15, L_16, L_20, L_24, L_26, L_31, L_32, L_42, L_48, L_56, L_57, L_59, L_60, L_97, L_98, L_99, L_104, L_106, L_255, L_300, L_462, L_616, neg1, nI_add, nI_mul, pk_div, pk_sub, nI_or, nI_shr, nI_shl, nI_and1, nI_leI, nI_ltI, nI_eq, cd_eq, cd_nI, nI_cd, rdA_nI, stA_nI, wrI_1, Option.bind_some, Option.map_some, Option.bind_none, if_true, if_false, e0, e1, e2, e3, r_isSo_t W2.2.1 (show w < 2 ^ 31 by omega) (show k < 31 by omega) hs]
          rw [if_neg (by omega), if_neg (by omega), if_neg (by omega), if_neg h2]
          exact ⟨(z2, z), hmono (fun y => h2 y.2), rfl⟩
      · rw [hw1] at e2
        simp (disch := omega) only [G_M_sound_138, GB_M_sound_138, G_M_sound_273, L_0, L_1, L_2, L_3, L_4, L_5, L_6, L_7, L_8, L_9, L_10, L_11, L_12, L_15, L_16, L_20, L_24, L_26, L_31, L_32, L_42, L_48, L_56, L_57, L_59, L_60, L_97, L_98, L_99, L_104, L_106, L_255, L_300, L_462, L_616, neg1, nI_add, nI_mul, pk_div, pk_sub, nI_or, nI_shr, nI_shl, nI_and1, nI_leI, nI_ltI, nI_eq, cd_eq, cd_nI, nI_cd, rdA_nI, stA_nI, wrI_1, Option.bind_some, Option.map_some, Option.bind_none, if_true, if_false, e0, e1, e2, r_isSo_f W2.2.1 (show w < 2 ^ 31 by omega) (show k < 31 by omega) hs]
        rw [if_neg (by omega), if_neg (by omega)]
        exact ⟨(z2, z), hmono (fun y => hs y.1), rfl⟩
/-- where a TONE sent at piece v0 has come -/
def SO (A : AP) (w : Nat) (b : Nat × Nat) (wet v0 : Nat) (s : mst) : Prop := ∀ v, nok A v → (s.1 109 (nm v) = nI 1 ∧ q_R A w b wet v0 v) ∨ (s.1 109 (nm v) = nI 0 ∧ ¬ q_R A w b wet v0 v)
theorem r_sound (hN : 1000 ≤ N) (ht : t < 6) (hG : GW A w b wet) (hR : RP s t A) (hW : RW s t A w b wet) {v0 : Nat} (hv0 : nok A v0) : ∃ s', G_M_sound N s (nI (nm v0)) = some s' ∧ Md [109] [] s s' ∧ SO A w b wet v0 s' := by
  have hA := hG.1
  have hlt := nm_lt hA hv0
  unfold G_M_sound
  refine Exists.elim (lpE (F := fun f i s => G_M_sound_2 N (nI (nm v0)) f (nI i) s) (n := 462) (I := fun i s' => Md [109] [] s s' ∧ ∀ j, j < i → s'.1 109 j = nI 0) ?_ N 0 s (by omega) (by omega) ⟨Md_r, fun j hj => by omega⟩) ?_
  rotate_left
  · intro f hlp
    obtain ⟨s1, ⟨m1, hI⟩, e⟩ := hlp
    have hstart : ∃ r, (Md [109] [] s r ∧ SO A w b wet v0 r) ∧ G_M_sound_31 N N (nI 1) (wr1 s1 109 (nm v0) (nI 1)) = some r := by
      refine lpM (F := fun f (z : Int32 × mst) => G_M_sound_31 N f z.1 z.2) (I := fun z => Md [109] [] s z.2 ∧ BB z.2 ∧ z.2.1 109 (nm v0) = nI 1 ∧ (∀ v, nok A v → z.2.1 109 (nm v) = nI 1 → q_R A w b wet v0 v) ∧ (z.1 = nI 1 ∨ (z.1 = nI 0 ∧ ∀ a c, q_E A w b wet a c → z.2.1 109 (nm a) = z.2.1 109 (nm c)))) (Q := fun r => Md [109] [] s r ∧ SO A w b wet v0 r) (fun z => 2 * (462 - cn1 (z.2.1 109) 462) + if z.1 = nI 0 then 0 else 1) ?_ N (nI 1, wr1 s1 109 (nm v0) (nI 1)) ?_ ?_
      · intro f ⟨x2, z⟩ ⟨i1, i2, i3, i4, i5⟩
        dsimp only at i1 i2 i3 i4 i5
        rcases i5 with rfl | ⟨rfl, i5⟩
        · left
          have hps : PS A w b wet v0 s z (nI 0) z (F1 A w b 0 0) := ⟨i1, i2, i3, i4, Or.inl ⟨rfl, rfl, fun a c ⟨x', n', hh, _⟩ => by omega⟩⟩
          obtain ⟨x2', s2, g1, g2⟩ := r_s39 (show 100 ≤ N by omega) ht hG hR hW hps (G_M_sound_31 N f)
          obtain ⟨x3, s3, g3, g4⟩ := r_s138 (show 100 ≤ N by omega) ht hG hR hW g2 (G_M_sound_31 N f)
          obtain ⟨j1, j2, j3, j4, j5⟩ := g4
          refine ⟨(x3, s3), ⟨j1, j2, j3, j4, ?_⟩, ?_, ?_⟩
          · rcases j5 with ⟨a1, a2, a3⟩ | ⟨a1, _⟩
            · exact Or.inr ⟨a1, a3⟩
            · exact Or.inl a1
          · dsimp only
            have hle := cn1_le (f := s3.1 109) 462
            have hle2 := cn1_le (f := z.1 109) 462
            rw [if_neg (show ¬ nI 1 = nI 0 by decide)]
            rcases j5 with ⟨a1, a2, a3⟩ | ⟨a1, a2⟩
            · rw [a1, a2, if_pos rfl]
              omega
            · rw [a1, if_neg (by decide)]
              omega
          · show GB_M_sound_31 N (G_M_sound_31 N f) (nI 1) z = _
            unfold GB_M_sound_31
            rw [if_neg (by decide), L_0, g1, g3]
        · right
          refine ⟨z, ⟨i1, fun v hv => ?_⟩, ?_⟩
          · by_cases hq : q_R A w b wet v0 v
            · left
              exact ⟨hq (fun u => z.1 109 (nm u) = nI 1) i3 (fun a c hac => by rw [i5 a c hac]), hq⟩
            · right
              refine ⟨?_, hq⟩
              rcases i2 _ (nm_lt hA hv) with y | y
              · exact y
              · exact absurd (i4 v hv y) hq
          · show GB_M_sound_31 N (G_M_sound_31 N f) (nI 0) z = _
            unfold GB_M_sound_31 G_M_sound_282
            rw [if_pos nI_0]
      · dsimp only
        have hle := cn1_le (f := (wr1 s1 109 (nm v0) (nI 1)).1 109) 462
        split <;> omega
      · dsimp only
        refine ⟨Md_t m1 (Md_w (by decide) (by decide)), fun q hq => ?_, ?_, fun v hv hv1 => ?_, Or.inl rfl⟩
        · rw [wr1_at]
          split
          · exact Or.inr rfl
          · exact Or.inl (hI q hq)
        · rw [wr1_at, if_pos rfl]
        · rw [wr1_at] at hv1
          split at hv1
          · rename_i he
            rw [nm_inj hA hv hv0 he]
            exact q_R_0
          · rw [hI _ (nm_lt hA hv)] at hv1
            exact absurd hv1 (by decide)
    obtain ⟨r, ⟨hr1, hr2⟩, er⟩ := hstart
    refine ⟨r, ?_, hr1, hr2⟩
    refine Eq.trans e ?_
    simp (disch := omega) only [G_M_sound_2, GB_M_sound_2, G_M_sound_22, L_0, L_1, L_2, L_3, L_4, L_5, L_6, L_7, L_8, L_9, L_10, L_11, L_12, L_15, L_16, L_20, L_24, L_26, L_31, L_32, L_42, L_48, L_56, L_57, L_59, L_60, L_97, L_98, L_99, L_104, L_106, L_255, L_300, L_462, L_616, neg1, nI_add, nI_mul, pk_div, pk_sub, nI_or, nI_shr, nI_shl, nI_and1, nI_leI, nI_ltI, nI_eq, cd_eq, cd_nI, nI_cd, rdA_nI, stA_nI, wrI_1, Option.bind_some, Option.map_some, Option.bind_none, if_true, if_false, stZ_nI, nar3_n1]
    rw [if_pos (by omega)]
    exact er
  · intro f i s' hi ⟨hm, hI⟩
    simp (disch := omega) only [G_M_sound_2, GB_M_sound_2, L_0, L_1, L_2, L_3, L_4, L_5, L_6, L_7, L_8, L_9, L_10, L_11, L_12, L_15, L_16, L_20, L_24, L_26, L_31, L_32, L_42, L_48, L_56, L_57, L_59, L_60, L_97, L_98, L_99, L_104, L_106, L_255, L_300, L_462, L_616, neg1, nI_add, nI_mul, pk_div, pk_sub, nI_or, nI_shr, nI_shl, nI_and1, nI_leI, nI_ltI, nI_eq, cd_eq, cd_nI, nI_cd, rdA_nI, stA_nI, wrI_1, Option.bind_some, Option.map_some, Option.bind_none, if_true, if_false, stZ_nI, nar3_n0]
    rw [if_neg (by omega)]
    refine ⟨_, ⟨Md_t hm (Md_w (by decide) (by decide)), fun j hj => ?_⟩, rfl⟩
    rw [wr1_at]
    split
    · rfl
    · exact hI j (by omega)
end SND
