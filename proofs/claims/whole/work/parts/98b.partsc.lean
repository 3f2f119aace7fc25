/-! ===== PARTS and NEXT: the class ===== -/
theorem lst_ex {P : Nat → Prop} : ∀ n, (∃ d, d ≤ n ∧ P d) → ∃ d, d ≤ n ∧ P d ∧ ∀ d', d' ≤ n → P d' → d ≤ d' := by
  intro n
  induction n with
  | zero =>
    intro ⟨d, h1, h2⟩
    exact ⟨d, h1, h2, fun d' h3 _ => by omega⟩
  | succ n ih =>
    intro ⟨d, h1, h2⟩
    by_cases c : ∃ d, d ≤ n ∧ P d
    · obtain ⟨e, e1, e2, e3⟩ := ih c
      refine ⟨e, by omega, e2, fun d' h3 h4 => ?_⟩
      by_cases c2 : d' ≤ n
      · exact e3 d' c2 h4
      · omega
    · refine ⟨d, h1, h2, fun d' h3 h4 => ?_⟩
      have : ¬ d' ≤ n := fun h => c ⟨d', h, h4⟩
      omega
theorem gst_ex {P : Nat → Prop} : ∀ n, (∃ d, d ≤ n ∧ P d) → ∃ d, d ≤ n ∧ P d ∧ ∀ d', d' ≤ n → P d' → d' ≤ d := by
  intro n
  induction n with
  | zero =>
    intro ⟨d, h1, h2⟩
    exact ⟨d, h1, h2, fun d' h3 _ => by omega⟩
  | succ n ih =>
    intro ⟨d, h1, h2⟩
    by_cases c : P (n + 1)
    · exact ⟨n + 1, Nat.le_refl _, c, fun d' h3 _ => h3⟩
    · have hd : d ≤ n := by
        apply Classical.byContradiction
        intro h
        have : d = n + 1 := by omega
        rw [this] at h2
        exact c h2
      obtain ⟨e, e1, e2, e3⟩ := ih ⟨d, hd, h2⟩
      refine ⟨e, by omega, e2, fun d' h3 h4 => ?_⟩
      by_cases c2 : d' = n + 1
      · rw [c2] at h4; exact absurd h4 c
      · exact e3 d' (by omega) h4
theorem FST_ex {e L : Nat} {P : Nat → Prop} : ∃ v, FST e L P v := by
  by_cases c : ∃ d, d ≤ L ∧ P d
  · by_cases he : e = 0
    · obtain ⟨d, h1, h2, h3⟩ := lst_ex L c
      exact ⟨d + 1, Or.inr ⟨d, h1, rfl, h2, fun d' h4 h5 => by rw [if_pos he]; exact h3 d' h4 h5⟩⟩
    · obtain ⟨d, h1, h2, h3⟩ := gst_ex L c
      exact ⟨d + 1, Or.inr ⟨d, h1, rfl, h2, fun d' h4 h5 => by rw [if_neg he]; exact h3 d' h4 h5⟩⟩
  · exact ⟨0, Or.inl ⟨rfl, fun d h1 h2 => c ⟨d, h1, h2⟩⟩⟩
theorem q_mt_ex {A : AP} (hA : WF A) {w wet e : Nat} {b : Nat × Nat} : ∀ m s g, q_st A s → q_ms A e s ≤ m → ∃ r, q_mt A w b wet e m s g r := by
  intro m
  induction m with
  | zero => intro s g hs h; have := (q_ms_pos hA (e := e) hs).1; omega
  | succ m ih =>
    intro s g hs h
    obtain ⟨tv, h1⟩ := FST_ex (e := e) (L := q_ln A (s / 8)) (P := q_TP A w b wet s e)
    obtain ⟨bv, h2⟩ := FST_ex (e := e) (L := q_ln A (s / 8)) (P := q_BP A w b s)
    by_cases c1 : tv = 0
    · by_cases c2 : bv = 0
      · by_cases c3 : q_nx A w s e = 0
        · exact ⟨_, tv, bv, h1, h2, Or.inr (Or.inr (Or.inl ⟨c1, c2, c3, rfl⟩))⟩
        · obtain ⟨n1, n2⟩ := q_nx_st hA hs c3
          obtain ⟨r, hr⟩ := ih (q_nx A w s e - 1) (g + q_ln A (s / 8)) n1 (by omega)
          exact ⟨r, tv, bv, h1, h2, Or.inr (Or.inr (Or.inr ⟨c1, c2, c3, hr⟩))⟩
      · exact ⟨_, tv, bv, h1, h2, Or.inr (Or.inl ⟨c1, c2, rfl⟩)⟩
    · exact ⟨_, tv, bv, h1, h2, Or.inl ⟨c1, rfl⟩⟩
theorem WD_lt2 {A : AP} {k w wet v : Nat} {b : Nat × Nat} (hA : WF A) (hk : k < q_ne A) (h : WD A k w b wet v) : v < 2776 := by
  rcases h with ⟨h1, h2⟩ | ⟨h1, h2⟩
  · have := h2.1; omega
  · obtain ⟨w1, w2, w3, w4, w5, w6⟩ := hA.2.2.2.2.2.1 k hk
    obtain ⟨_, f, hf⟩ := h2
    have hst : q_st A (if q_ee A k = 0 then q_es A k else q_in A w (q_es A k)) := by
      split
      · exact w2
      · exact q_in_st hA |>.1.mpr w2
    obtain ⟨r, hr⟩ := q_mt_ex hA (w := w) (wet := wet) (b := b) 7 _ 0 hst (q_ms_pos hA (e := q_ee A k) hst).2
    have := q_mt_le hA 7 _ 0 r hst hr
    rw [q_mt_u _ _ _ _ _ _ hf hr]
    omega
def TZ (s : mst) : Prop := ∀ v, v < 2776 → s.1 53 v = nI 0
section PAC
variable {h0 : Nat → pm_C} {B : Nat} {D : Nat → pd} {hi z : Nat} {s : mst} {N P t : Nat} {A : AP} {ow : Nat → Nat}
theorem c_partFits (hN : 2000 ≤ N) (hf : FX D hi) (hp : PL D hi P) (hA : WF A) (hP : P = 58 ∨ 130 ≤ P) (hO : OB ow t P) (hOF : OF ow) (hC : COL D hi ow s t P) (hL : FLs s P A (2 ^ q_nt A)) {k wet : Nat} (hk : k < q_ne A) (hwet : wet ≤ 1) (hh : has s P (2 * k + wet)) (hv : ∀ w, w < 2 ^ q_nt A → ∃ v, cv s P (2 * k + wet) w = nI v ∧ WD A k w (0, 0) wet v) (hz : TZ s) : ∃ s', F_Bench_partFits N (mkM h0 B D hi z s) (B + 5) (B + P) (nI k) (nI wet) = some (mkM h0 B D hi z (s')) ∧ Fm (fun q => q = 5 ∨ q = 53) s s' ∧ TZ s' ∧ s'.1 5 4 = nI (q_lg A (q_tl A k wet) (2 ^ q_nt A)) ∧ s'.1 5 5 = nI (q_kd A (q_tl A k wet) (2 ^ q_nt A)) := by
  have hpw := pow10 hA.1.2.2.2.2.2.1
  have hc := hA.1
  unfold WFc at hc
  have h2 := q_fc_le (A := A) (2 ^ q_nt A)
  have hne : q_ne A ≤ 12 := by omega
  have hj : 2 * k + wet < 24 := by omega
  have a53 : AR D hi 53 2776 := ar_fx hf (by decide) (fx_53 hf) (by decide)
  generalize hT : q_tl A k wet = T
  have hTv : ∀ w, w < 2 ^ q_nt A → cv s P (2 * k + wet) w = nI (T w) ∧ T w < 2776 := by
    intro w hw
    obtain ⟨v, v1, v2⟩ := hv w hw
    have : T w = v := by rw [← hT]; exact q_tl_eq v2
    rw [this]
    exact ⟨v1, WD_lt2 hA hk v2⟩
  -- what is read stays
  have keep : ∀ s', Fm (fun q => q = 5 ∨ q = 53) s s' → FLs s' P A (2 ^ q_nt A) ∧ ∀ w, w < 2 ^ q_nt A → FT A w → F_Sheet_fitAt N (mkM h0 B D hi z (s')) (B + (P + 24)) (nI (q_fc A w)) = some (nI w, (mkM h0 B D hi z (s'))) ∧ F_Sheet_written N (mkM h0 B D hi z (s')) (B + (P + 24)) (nI (2 * k + wet)) (nI w) = some (nI (T w), (mkM h0 B D hi z (s'))) := by
    intro s' hm
    have hm' : Fe (fun q => q = 5 ∨ q = 53) s s' := hm.1
    have e24 : s'.1 (P + 24) = s.1 (P + 24) := hm.1 _ (by omega)
    have e26 : s'.1 (P + 26) = s.1 (P + 26) := hm.1 _ (by omega)
    obtain ⟨k1, k2, k3⟩ := col_keep2 hC hO hm' (fun q hq => by
      intro hq2
      have := hOF q (by omega)
      omega)
    have L' : FLs s' P A (2 ^ q_nt A) := ⟨by rw [e24]; exact hL.1, fun w hw hft => by rw [e26]; exact hL.2 w hw hft⟩
    have h' : has s' P (2 * k + wet) := by unfold has; rw [k2]; exact hh
    refine ⟨L', fun w hw hft => ⟨c_fitAt hp hA L' hw hft, ?_⟩⟩
    rw [c_written hp k1 hj (by omega) h', k3 _ w hj hh, (hTv w hw).1]
  have en1 : ∀ f s', Fm (fun q => q = 5 ∨ q = 53) s s' → F_Bench_partFits_118 N (B + 5) (B + P) (nI (2 * k + wet)) (f + 1) (nI (q_fc A (2 ^ q_nt A))) (mkM h0 B D hi z (s')) = some (mkM h0 B D hi z (s')) := by
    intro f s' hm
    show B_Bench_partFits_118 N (F_Bench_partFits_118 N (B + 5) (B + P) (nI (2 * k + wet)) f) (B + 5) (B + P) (nI (2 * k + wet)) (nI (q_fc A (2 ^ q_nt A))) (mkM h0 B D hi z (s')) = _
    unfold B_Bench_partFits_118 F_Bench_partFits_162
    rw [pl_11 hp]
    dsimp only [Option.bind_some]
    rw [sh_3 hp, (keep s' hm).1.1]
    dsimp only [Option.bind_some]
    rw [if_pos (nI_le (Nat.le_refl _) (by omega))]
  have st1 : ∀ f s' w, Fm (fun q => q = 5 ∨ q = 53) s s' → w < 2 ^ q_nt A → FT A w → F_Bench_partFits_118 N (B + 5) (B + P) (nI (2 * k + wet)) (f + 1) (nI (q_fc A w)) (mkM h0 B D hi z (s')) = F_Bench_partFits_118 N (B + 5) (B + P) (nI (2 * k + wet)) f (nI (q_fc A w + 1)) (mkM h0 B D hi z (wr1 s' 53 (T w) (nI 0))) := by
    intro f s' w hm hw hft
    obtain ⟨L', kk⟩ := keep s' hm
    obtain ⟨k1, k2⟩ := kk w hw hft
    show B_Bench_partFits_118 N (F_Bench_partFits_118 N (B + 5) (B + P) (nI (2 * k + wet)) f) (B + 5) (B + P) (nI (2 * k + wet)) (nI (q_fc A w)) (mkM h0 B D hi z (s')) = _
    unfold B_Bench_partFits_118
    rw [pl_11 hp]
    dsimp only [Option.bind_some]
    rw [sh_3 hp, L'.1]
    dsimp only [Option.bind_some]
    rw [if_neg (nI_ge (q_fc_lt hw hft) (by omega)), rdm_5_3 hf]
    dsimp only [Option.bind_some]
    rw [k1]
    dsimp only [Option.bind_some]
    rw [k2]
    dsimp only [Option.bind_some]
    rw [ar_s a53, ws_nI (hTv w hw).2 (by decide), nI_1]
    rfl
  have en2 : ∀ f s', Fm (fun q => q = 5 ∨ q = 53) s s' → F_Bench_partFits_20 N (B + 5) (B + P) (nI (2 * k + wet)) (f + 1) (nI (q_fc A (2 ^ q_nt A))) (mkM h0 B D hi z (s')) = F_Bench_partFits_118 N (B + 5) (B + P) (nI (2 * k + wet)) N (nI 0) (mkM h0 B D hi z (s')) := by
    intro f s' hm
    show B_Bench_partFits_20 N (F_Bench_partFits_20 N (B + 5) (B + P) (nI (2 * k + wet)) f) (B + 5) (B + P) (nI (2 * k + wet)) (nI (q_fc A (2 ^ q_nt A))) (mkM h0 B D hi z (s')) = _
    unfold B_Bench_partFits_20 F_Bench_partFits_115
    rw [pl_11 hp]
    dsimp only [Option.bind_some]
    rw [sh_3 hp, (keep s' hm).1.1]
    dsimp only [Option.bind_some]
    rw [if_pos (nI_le (Nat.le_refl _) (by omega))]
    rfl
  have st2 : ∀ f s' w a g, Fm (fun q => q = 5 ∨ q = 53) s s' → w < 2 ^ q_nt A → FT A w → a < 2000 → g < 2000 → s'.1 53 (T w) = nI a → s'.1 5 4 = nI g → F_Bench_partFits_20 N (B + 5) (B + P) (nI (2 * k + wet)) (f + 1) (nI (q_fc A w)) (mkM h0 B D hi z (s')) = F_Bench_partFits_20 N (B + 5) (B + P) (nI (2 * k + wet)) f (nI (q_fc A w + 1)) (mkM h0 B D hi z (wr1 (wr1 (wr1 s' 53 (T w) (nI (a + 1))) 5 5 (s'.1 5 5 + nI (if a = 0 then 1 else 0))) 5 4 (nI (max g (a + 1))))) := by
    intro f s' w a g hm hw hft ha hg e1 e2
    obtain ⟨L', kk⟩ := keep s' hm
    obtain ⟨k1, k2⟩ := kk w hw hft
    show B_Bench_partFits_20 N (F_Bench_partFits_20 N (B + 5) (B + P) (nI (2 * k + wet)) f) (B + 5) (B + P) (nI (2 * k + wet)) (nI (q_fc A w)) (mkM h0 B D hi z (s')) = _
    unfold B_Bench_partFits_20 F_Bench_partFits_92
    rw [pl_11 hp]
    dsimp only [Option.bind_some]
    rw [sh_3 hp, L'.1]
    dsimp only [Option.bind_some]
    rw [if_neg (nI_ge (q_fc_lt hw hft) (by omega)), k1]
    dsimp only [Option.bind_some]
    rw [k2]
    dsimp only [Option.bind_some]
    rw [rdm_5_3 hf]
    dsimp only [Option.bind_some]
    rw [ar_v a53, vat_nI (hTv w hw).2 (by decide), e1]
    dsimp only [Option.bind_some]
    rw [rdm_5_3 hf]
    dsimp only [Option.bind_some]
    rw [ar_s a53, ws_nI (hTv w hw).2 (by decide), nI_1]
    dsimp only [Option.bind_some]
    rw [rdm_5_5 hf]
    dsimp only [Option.bind_some]
    have fin : ∀ d : Nat, ((wF (mkM h0 B D hi z (wr1 s' 53 (T w) (nI (a + 1)))) (B + 5) 0 5 .int (.int ((wr1 s' 53 (T w) (nI (a + 1))).1 5 5 + nI d))).bind fun S45 => (oI S45 (B + 5) 0 4).bind fun v46 => (wF S45 (B + 5) 0 4 .int (.int (if v46 < nI (a + 1) then nI (a + 1) else v46))).bind fun S47 => F_Bench_partFits_20 N (B + 5) (B + P) (nI (2 * k + wet)) f (nI (q_fc A w) + 1) S47) = F_Bench_partFits_20 N (B + 5) (B + P) (nI (2 * k + wet)) f (nI (q_fc A w + 1)) (mkM h0 B D hi z (wr1 (wr1 (wr1 s' 53 (T w) (nI (a + 1))) 5 5 (s'.1 5 5 + nI d)) 5 4 (nI (max g (a + 1))))) := by
      intro d
      rw [wrm_5_5 hf]
      dsimp only [Option.bind_some]
      rw [rdm_5_4 hf]
      dsimp only [Option.bind_some]
      rw [wrm_5_4 hf]
      dsimp only [Option.bind_some]
      have x1 : (wr1 s' 53 (T w) (nI (a + 1))).1 5 5 = s'.1 5 5 := by rw [wr1_ne (by decide)]
      rw [x1]
      have x2 : (wrI (wr1 s' 53 (T w) (nI (a + 1))) 5 5 (s'.1 5 5 + nI d)).1 5 4 = nI g := by
        show (wr1 (wr1 s' 53 (T w) (nI (a + 1))) 5 5 (s'.1 5 5 + nI d)).1 5 4 = _
        rw [wr1_at, if_neg (by decide), wr1_ne (by decide), e2]
      rw [x2, nI_1]
      have x3 : (if nI g < nI (a + 1) then nI (a + 1) else nI g) = nI (max g (a + 1)) := by
        by_cases c : g < a + 1
        · rw [if_pos (nI_lt c (by omega)), Nat.max_eq_right (by omega)]
        · rw [if_neg (nI_nlt (by omega) (by omega)), Nat.max_eq_left (by omega)]
      rw [x3]
      rfl
    by_cases c : a = 0
    · rw [if_pos (by rw [c]; rfl), if_pos c]
      exact fin 1
    · rw [if_neg (fun e => c (by have := (nI_eq (a := a + 1) (b := 1) (by omega) (by omega)).mp e; omega)), if_neg c]
      exact fin 0
  have hs0 : Fm (fun q => q = 5 ∨ q = 53) s (wr1 (wr1 s 5 4 (nI 0)) 5 5 (nI 0)) := ⟨fun q hq => by rw [wr1_ne (by omega), wr1_ne (by omega)], rfl⟩
  have Ft : ∀ {a c d : mst}, Fm (fun q => q = 5 ∨ q = 53) a c → Fm (fun q => q = 5 ∨ q = 53) c d → Fm (fun q => q = 5 ∨ q = 53) a d := fun h h' => ⟨fun q hq => (h'.1 q hq).trans (h.1 q hq), h'.2.trans h.2⟩
  have Fw : ∀ {a : mst} {q j : Nat} {x : Int32}, (q = 5 ∨ q = 53) → Fm (fun q => q = 5 ∨ q = 53) a (wr1 a q j x) := fun h => ⟨fun q hq => wr1_ne (fun e => hq (by rw [e]; exact h)), rfl⟩
  unfold F_Bench_partFits
  rw [rcm_5 hf, if_pos rfl, c_columnOf hwet]
  dsimp only [Option.bind_some]
  rw [wrm_5_4 hf]
  dsimp only [Option.bind_some]
  rw [wrm_5_5 hf]
  dsimp only [Option.bind_some]
  have hstart : F_Bench_partFits_20 N (B + 5) (B + P) (nI (2 * k + wet)) N 0 (mkM h0 B D hi z (wrI (wrI s 5 4 0) 5 5 0)) = F_Bench_partFits_20 N (B + 5) (B + P) (nI (2 * k + wet)) N (nI 0) (mkM h0 B D hi z (wr1 (wr1 s 5 4 (nI 0)) 5 5 (nI 0))) := rfl
  rw [hstart]
  refine Exists.elim (lpE (F := fun f i s => F_Bench_partFits_20 N (B + 5) (B + P) (nI (2 * k + wet)) f (nI i) (mkM h0 B D hi z s)) (n := q_fc A (2 ^ q_nt A)) (I := fun i s' => Fm (fun q => q = 5 ∨ q = 53) s s' ∧ ∀ n, n ≤ 2 ^ q_nt A → q_fc A n = i → s'.1 5 4 = nI (q_lg A T n) ∧ s'.1 5 5 = nI (q_kd A T n) ∧ ∀ v, v < 2776 → s'.1 53 v = nI (q_cu A T v n)) ?_ N 0 (wr1 (wr1 s 5 4 (nI 0)) 5 5 (nI 0)) (Nat.zero_le _) (by omega) ⟨hs0, ?_⟩) ?_
  · intro f i s' hi' ⟨hm, hI⟩
    obtain ⟨w, w1, w2, w3⟩ := q_fc_ex (A := A) _ i hi'
    obtain ⟨i1, i2, i3⟩ := hI w (by omega) w3
    have u1 := q_cu_le (A := A) (T := T) (v := T w) w
    have u2 := q_lg_le (A := A) (T := T) w
    have hst := st2 f s' w (q_cu A T (T w) w) (q_lg A T w) hm w1 w2 (by omega) (by omega) (i3 _ (hTv w w1).2) i1
    rw [w3] at hst
    refine ⟨_, ⟨Ft hm (Ft (Fw (Or.inr rfl)) (Ft (Fw (Or.inl rfl)) (Fw (Or.inl rfl)))), fun n hn hq => ?_⟩, hst⟩
    have hqs : q_fc A n = q_fc A w + 1 := by omega
    have y1 : q_lg A T n = max (q_lg A T w) (q_cu A T (T w) w + 1) := by
      unfold q_lg
      rw [q_fo_s w2 hqs, q_cu_t w2, if_pos rfl]
    have y2 : q_kd A T n = if q_cu A T (T w) w = 0 then q_kd A T w + 1 else q_kd A T w := by
      unfold q_kd
      rw [q_fo_s w2 hqs]
    have y3 : ∀ v, q_cu A T v n = if T w = v then q_cu A T v w + 1 else q_cu A T v w := by
      intro v
      unfold q_cu
      rw [q_fo_s w2 hqs]
    refine ⟨?_, ?_, fun v hv => ?_⟩
    · rw [wr1_at, if_pos rfl, y1]
    · rw [wr1_at, if_neg (by decide), wr1_at, if_pos rfl, i2, y2, nI_add]
      by_cases c : q_cu A T (T w) w = 0
      · rw [if_pos c, if_pos c]
      · rw [if_neg c, if_neg c]; rfl
    · rw [wr1_ne (by decide), wr1_ne (by decide), wr1_at, y3]
      by_cases c : v = T w
      · rw [if_pos c, if_pos c.symm, c]
      · rw [if_neg c, if_neg (fun e => c e.symm)]; exact i3 v hv
  · intro n hn hq
    have z1 : ∀ {α : Type} (g : α → Nat → α) (a0 : α), q_fo A g a0 n = a0 := fun g a0 => q_fo_c (A := A) (g := g) (a0 := a0) (m := 0) n (Nat.zero_le _) (by rw [hq]; rfl)
    refine ⟨?_, ?_, fun v hv => ?_⟩
    · unfold q_lg
      rw [z1, wr1_at, if_neg (by decide), wr1_at, if_pos rfl]
    · unfold q_kd
      rw [z1, wr1_at, if_pos rfl]
    · unfold q_cu
      rw [z1, wr1_ne (by decide), wr1_ne (by decide)]
      exact hz v hv
  · intro f ⟨s1, ⟨hm, hI⟩, e⟩
    obtain ⟨l1, l2, l3⟩ := hI (2 ^ q_nt A) (Nat.le_refl _) rfl
    refine Exists.elim (lpE (F := fun f i s => F_Bench_partFits_118 N (B + 5) (B + P) (nI (2 * k + wet)) f (nI i) (mkM h0 B D hi z s)) (n := q_fc A (2 ^ q_nt A)) (I := fun i s' => Fm (fun q => q = 5 ∨ q = 53) s s' ∧ s'.1 5 = s1.1 5 ∧ ∀ n, n ≤ 2 ^ q_nt A → q_fc A n = i → ∀ v, v < 2776 → s'.1 53 v = nI (if q_cu A T v n = 0 then q_cu A T v (2 ^ q_nt A) else 0)) ?_ N 0 s1 (Nat.zero_le _) (by omega) ⟨hm, rfl, ?_⟩) ?_
    · intro f i s' hi' ⟨hm', h5, hI'⟩
      obtain ⟨w, w1, w2, w3⟩ := q_fc_ex (A := A) _ i hi'
      have i3 := hI' w (by omega) w3
      have hst := st1 f s' w hm' w1 w2
      rw [w3] at hst
      refine ⟨_, ⟨Ft hm' (Fw (Or.inr rfl)), by rw [wr1_ne (by decide)]; exact h5, fun n hn hq v hv => ?_⟩, hst⟩
      have hqs : q_fc A n = q_fc A w + 1 := by omega
      have y3 : q_cu A T v n = if T w = v then q_cu A T v w + 1 else q_cu A T v w := by
        unfold q_cu
        rw [q_fo_s w2 hqs]
      rw [wr1_at]
      by_cases c : v = T w
      · rw [if_pos c, y3, if_pos c.symm, if_neg (by omega)]
      · rw [if_neg c, y3, if_neg (show ¬ T w = v from fun e => c e.symm)]; exact i3 v hv
    · intro n hn hq v hv
      have z1 : q_cu A T v n = 0 := by
        unfold q_cu
        exact q_fo_c (A := A) (m := 0) n (Nat.zero_le _) (by rw [hq]; rfl)
      rw [z1, if_pos rfl]
      exact l3 v hv
    · intro f' ⟨s2, ⟨hm2, h5, hI2⟩, e2⟩
      refine ⟨s2, ?_, hm2, fun v hv => ?_, by rw [h5]; exact l1, by rw [h5]; exact l2⟩
      · refine Eq.trans e ?_
        rw [en2 f s1 hm]
        refine Eq.trans e2 ?_
        exact en1 f' s2 hm2
      · rw [hI2 (2 ^ q_nt A) (Nat.le_refl _) rfl v hv]
        by_cases c : q_cu A T v (2 ^ q_nt A) = 0
        · rw [if_pos c, c]
        · rw [if_neg c]
end PAC
