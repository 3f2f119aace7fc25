/-! ===== PARTS: how the fitting WORLDS part at a TEST; the reference ===== -/
noncomputable def q_tl (A : AP) (k wet w : Nat) : Nat := Classical.epsilon (fun v => WD A k w (0, 0) wet v)
theorem q_tl_eq {A : AP} {k wet w v : Nat} (h : WD A k w (0, 0) wet v) : q_tl A k wet w = v := WD_u (Classical.epsilon_spec ⟨v, h⟩) h
/-- how many of the first n fitting WORLDS tell v -/
noncomputable def q_cu (A : AP) (T : Nat → Nat) (v n : Nat) : Nat := q_fo A (fun acc w => if T w = v then acc + 1 else acc) 0 n
noncomputable def q_lg (A : AP) (T : Nat → Nat) (n : Nat) : Nat := q_fo A (fun acc w => max acc (q_cu A T (T w) (w + 1))) 0 n
noncomputable def q_kd (A : AP) (T : Nat → Nat) (n : Nat) : Nat := q_fo A (fun acc w => if q_cu A T (T w) w = 0 then acc + 1 else acc) 0 n
theorem q_cu_t {A : AP} {T : Nat → Nat} {v w : Nat} (h : FT A w) : q_cu A T v (w + 1) = if T w = v then q_cu A T v w + 1 else q_cu A T v w := by unfold q_cu; rw [q_fo_t h]
theorem q_cu_f {A : AP} {T : Nat → Nat} {v w : Nat} (h : ¬ FT A w) : q_cu A T v (w + 1) = q_cu A T v w := by unfold q_cu; rw [q_fo_f h]
theorem q_lg_t {A : AP} {T : Nat → Nat} {w : Nat} (h : FT A w) : q_lg A T (w + 1) = max (q_lg A T w) (q_cu A T (T w) (w + 1)) := by unfold q_lg; rw [q_fo_t h]
theorem q_lg_f {A : AP} {T : Nat → Nat} {w : Nat} (h : ¬ FT A w) : q_lg A T (w + 1) = q_lg A T w := by unfold q_lg; rw [q_fo_f h]
theorem q_kd_t {A : AP} {T : Nat → Nat} {w : Nat} (h : FT A w) : q_kd A T (w + 1) = if q_cu A T (T w) w = 0 then q_kd A T w + 1 else q_kd A T w := by unfold q_kd; rw [q_fo_t h]
theorem q_kd_f {A : AP} {T : Nat → Nat} {w : Nat} (h : ¬ FT A w) : q_kd A T (w + 1) = q_kd A T w := by unfold q_kd; rw [q_fo_f h]
theorem q_cu_0 {A : AP} {T : Nat → Nat} {v : Nat} : q_cu A T v 0 = 0 := rfl
theorem q_lg_0 {A : AP} {T : Nat → Nat} : q_lg A T 0 = 0 := rfl
theorem q_kd_0 {A : AP} {T : Nat → Nat} : q_kd A T 0 = 0 := rfl
theorem q_cu_le {A : AP} {T : Nat → Nat} {v : Nat} : ∀ n, q_cu A T v n ≤ n := by
  intro n
  induction n with
  | zero => exact Nat.le_refl _
  | succ n ih =>
    by_cases h : FT A n
    · rw [q_cu_t h]; split <;> omega
    · rw [q_cu_f h]; omega
theorem q_lg_le {A : AP} {T : Nat → Nat} : ∀ n, q_lg A T n ≤ n := by
  intro n
  induction n with
  | zero => exact Nat.le_refl _
  | succ n ih =>
    by_cases h : FT A n
    · rw [q_lg_t h]
      have := q_cu_le (A := A) (T := T) (v := T n) (n + 1)
      omega
    · rw [q_lg_f h]; omega
theorem q_kd_le {A : AP} {T : Nat → Nat} : ∀ n, q_kd A T n ≤ n := by
  intro n
  induction n with
  | zero => exact Nat.le_refl _
  | succ n ih =>
    by_cases h : FT A n
    · rw [q_kd_t h]; split <;> omega
    · rw [q_kd_f h]; omega
theorem q_cu_z {A : AP} {T : Nat → Nat} {v : Nat} : ∀ n, (∀ w, w < n → FT A w → T w ≠ v) → q_cu A T v n = 0 := by
  intro n
  induction n with
  | zero => intro _; rfl
  | succ n ih =>
    intro h
    have := ih (fun w hw => h w (by omega))
    by_cases hf : FT A n
    · rw [q_cu_t hf, if_neg (h n (by omega) hf)]; exact this
    · rw [q_cu_f hf]; exact this
theorem q_cu_p {A : AP} {T : Nat → Nat} {v w : Nat} : ∀ n, w < n → FT A w → T w = v → q_cu A T v n ≠ 0 := by
  intro n
  induction n with
  | zero => intro h; omega
  | succ n ih =>
    intro h hf hv
    by_cases c : w = n
    · rw [← c, q_cu_t hf, if_pos hv]; omega
    · have := ih (by omega) hf hv
      by_cases hf2 : FT A n
      · rw [q_cu_t hf2]; split <;> omega
      · rw [q_cu_f hf2]; exact this
/-- the largest is 0 just where none fits -/
theorem q_lg_z {A : AP} {T : Nat → Nat} : ∀ n, q_lg A T n = 0 ↔ q_fc A n = 0 := by
  intro n
  induction n with
  | zero => exact ⟨fun _ => rfl, fun _ => rfl⟩
  | succ n ih =>
    by_cases h : FT A n
    · rw [q_lg_t h, q_fc_t h, q_cu_t h, if_pos rfl]
      constructor <;> intro h2 <;> omega
    · rw [q_lg_f h, q_fc_f h]; exact ih
/-- the reference's two lists -/
def PT (s : mst) (A : AP) (T : Nat → Nat) (n : Nat) : Prop := s.1 85 51 = nI (q_kd A T n) ∧ s.1 85 52 = nI (q_lg A T n) ∧ ∃ vl : Nat → Nat, (∀ i, i < q_kd A T n → vl i < 3000 ∧ s.1 123 i = nI (vl i) ∧ s.1 124 i = nI (q_cu A T (vl i) n) ∧ q_cu A T (vl i) n ≠ 0) ∧ (∀ i j, i < q_kd A T n → j < q_kd A T n → vl i = vl j → i = j) ∧ ∀ v, q_cu A T v n ≠ 0 → ∃ i, i < q_kd A T n ∧ vl i = v
def LF (s : mst) (A : AP) (n : Nat) : Prop := ∀ w, w < n → (s.1 122 w = nI 1 ∧ FT A w) ∨ (s.1 122 w = nI 0 ∧ ¬ FT A w)
section PAR
variable {N t : Nat} {s : mst} {A : AP}
theorem r_layFits (hN : 2000 ≤ N) (ht : t < 6) (hA : WF A) (hR : RP s t A) : ∃ s', G_M_layFits N s (nI t) = some s' ∧ Md [106, 107, 108, 109, 122] [29, 30, 31, 34] s s' ∧ LF s' A (2 ^ q_nt A) := by
  have hpw := pow10 hA.1.2.2.2.2.2.1
  unfold G_M_layFits
  refine Exists.elim (lpE (F := fun f w s => G_M_layFits_2 N (nI t) f (nI w) s) (n := 2 ^ q_nt A) (I := fun w s' => Md [106, 107, 108, 109, 122] [29, 30, 31, 34] s s' ∧ LF s' A w) ?_ N 0 s (Nat.zero_le _) (by omega) ⟨Md_r, fun w hw => by omega⟩) ?_
  · intro f w q2 hw ⟨i2, i3⟩
    have R2 : RP q2 t A := RP_md hR i2 (by decide)
    obtain ⟨e1, e2⟩ := r_worlds ht hA R2
    obtain ⟨r, s2, f1, f2, f3⟩ := r_fits (N := N) (w := w) (by omega) ht hA (by omega) R2
    have hr : pm_nar 3 r = r := by rcases f3 with ⟨h, _⟩ | ⟨h, _⟩ <;> rw [h] <;> rfl
    refine ⟨wr1 s2 122 w r, ⟨Md_t i2 (Md_t (Md_m f2 (by decide) (by decide)) (Md_w (by decide) (by decide))), fun w' hw' => ?_⟩, ?_⟩
    · rw [wr1_at]
      by_cases c : w' = w
      · rw [if_pos c, c]
        rcases f3 with ⟨h, h2⟩ | ⟨h, h2⟩
        · exact Or.inl ⟨h, h2⟩
        · exact Or.inr ⟨h, h2⟩
      · rw [if_neg c, f2.1 122 (by decide) (by decide)]
        exact i3 w' (by omega)
    · show GB_M_layFits_2 N (G_M_layFits_2 N (nI t) f) (nI t) (nI w) q2 = _
      unfold GB_M_layFits_2
      rw [e1, Option.bind_some, e2, if_neg (nI_ge hw (by omega)), f1, Option.bind_some]
      dsimp only
      rw [stZ_nI (by omega) (by decide), Option.bind_some, hr, nI_1]
  · intro f ⟨s', ⟨i1, i2⟩, e⟩
    refine ⟨s', ?_, i1, i2⟩
    refine Eq.trans e ?_
    have R2 : RP s' t A := RP_md hR i1 (by decide)
    obtain ⟨e1, e2⟩ := r_worlds ht hA R2
    show GB_M_layFits_2 N (G_M_layFits_2 N (nI t) f) (nI t) (nI (2 ^ q_nt A)) s' = _
    unfold GB_M_layFits_2 G_M_layFits_32
    rw [e1, Option.bind_some, e2, if_pos (nI_le (Nat.le_refl _) (by omega))]
/-- where a value stands in the list -/
theorem r_find {rec13 : Int32 → mst → Option mst} {x1 x2 x3 x4 : Int32} {K v : Nat} {vl : Nat → Nat} (hK : K ≤ 1024) (hv : v < 3000) (hk : s.1 85 51 = nI K) (hl : ∀ i, i < K → vl i < 3000 ∧ s.1 123 i = nI (vl i)) : ∀ fuel i, i ≤ K → K < fuel + i → (∀ j, j < i → vl j ≠ v) → ∃ j, j ≤ K ∧ (∀ j', j' < j → vl j' ≠ v) ∧ (j < K → vl j = v) ∧ G_M_layParts_53 N rec13 x1 x2 x3 x4 (nI v) fuel (nI i) s = G_M_layParts_80 N rec13 x1 x2 x3 x4 (nI v) (nI j) s := by
  intro fuel
  induction fuel with
  | zero => intro i h1 h2; omega
  | succ f ih =>
    intro i h1 h2 h3
    have hst : G_M_layParts_53 N rec13 x1 x2 x3 x4 (nI v) (f + 1) (nI i) s = GB_M_layParts_53 N rec13 (G_M_layParts_53 N rec13 x1 x2 x3 x4 (nI v) f) x1 x2 x3 x4 (nI v) (nI i) s := rfl
    rw [hst]
    unfold GB_M_layParts_53
    rw [hk]
    by_cases c : K ≤ i
    · rw [if_pos (nI_le c (by omega))]
      exact ⟨i, h1, h3, fun h => by omega, rfl⟩
    · obtain ⟨l1, l2⟩ := hl i (by omega)
      rw [if_neg (nI_ge (by omega) (by omega)), rdA_nI (by omega) (by decide), Option.bind_some, l2]
      by_cases c2 : vl i = v
      · rw [if_pos (by rw [c2])]
        exact ⟨i, h1, h3, fun _ => c2, rfl⟩
      · rw [if_neg (fun e => c2 ((nI_eq (by omega) (by omega)).mp e)), nI_1]
        exact ih (i + 1) (by omega) (by omega) (fun j hj => by
          by_cases hji : j = i
          · rw [hji]; exact c2
          · exact h3 j (by omega))
theorem r_layParts (hN : 2000 ≤ N) (ht : t < 6) (hA : WF A) (hR : RP s t A) {k wet : Nat} (hk : k < q_ne A) (hwet : wet ≤ 1) (hL : LF s A (2 ^ q_nt A)) : ∃ s', G_M_layParts N s (nI t) (nI k) (nI wet) = some s' ∧ Md [106, 107, 108, 109, 123, 124] [29, 30, 31, 34, 51, 52] s s' ∧ s'.1 85 51 = nI (q_kd A (q_tl A k wet) (2 ^ q_nt A)) ∧ s'.1 85 52 = nI (q_lg A (q_tl A k wet) (2 ^ q_nt A)) := by
  have hpw := pow10 hA.1.2.2.2.2.2.1
  unfold G_M_layParts
  have hw0 : wrI (wrI s 85 51 0) 85 52 0 = wr1 (wr1 s 85 51 (nI 0)) 85 52 (nI 0) := rfl
  rw [hw0]
  generalize hT : q_tl A k wet = T
  refine Exists.elim (lpE (F := fun f w s => G_M_layParts_13 N (nI t) (nI k) (nI wet) f (nI w) s) (n := 2 ^ q_nt A) (I := fun w s' => Md [106, 107, 108, 109, 123, 124] [29, 30, 31, 34, 51, 52] s s' ∧ PT s' A T w) ?_ N 0 (wr1 (wr1 s 85 51 (nI 0)) 85 52 (nI 0)) (Nat.zero_le _) (by omega) ⟨Md_t (Md_f (by decide)) (Md_f (by decide)), ?_⟩) ?_
  · intro f w q2 hw ⟨i2, p1, p2, vl, p3, p4, p5⟩
    have R2 : RP q2 t A := RP_md hR i2 (by decide)
    obtain ⟨e1, e2⟩ := r_worlds ht hA R2
    have e122 : q2.1 122 w = s.1 122 w := by rw [i2.1 122 (by decide) (by decide)]
    have hst : G_M_layParts_13 N (nI t) (nI k) (nI wet) (f + 1) (nI w) q2 = if q2.1 122 w = 0 then G_M_layParts_13 N (nI t) (nI k) (nI wet) f (nI (w + 1)) q2 else (G_M_wouldIn N q2 (nI t) (nI k) (nI w) (nI wet)).bind fun r4 => G_M_layParts_53 N (G_M_layParts_13 N (nI t) (nI k) (nI wet) f) (nI t) (nI k) (nI wet) (nI w) r4.1 N 0 r4.2 := by
      show GB_M_layParts_13 N (G_M_layParts_13 N (nI t) (nI k) (nI wet) f) (nI t) (nI k) (nI wet) (nI w) q2 = _
      unfold GB_M_layParts_13 G_M_layParts_149
      rw [e1, Option.bind_some, e2, if_neg (nI_ge hw (by omega)), rdA_nI (by omega) (by decide), Option.bind_some, nI_1]
    rw [e122] at hst
    have hK := q_kd_le (A := A) (T := T) w
    have hG := q_lg_le (A := A) (T := T) w
    rcases hL w hw with ⟨l1, hft⟩ | ⟨l1, hft⟩
    · rw [l1, if_neg (show ¬ nI 1 = 0 by decide)] at hst
      obtain ⟨v, s2, f1, f2, f3⟩ := r_wouldIn (N := N) (w := w) (wet := wet) (by omega) ht ⟨hA, by omega, hwet, Or.inl rfl⟩ R2 hk
      have hv := WD_lt f3
      have hTv : T w = v := by rw [← hT]; exact q_tl_eq f3
      rw [f1, Option.bind_some] at hst
      dsimp only at hst
      have k51 : s2.1 85 51 = nI (q_kd A T w) := by rw [f2.2.1 51 (by decide)]; exact p1
      have k52 : s2.1 85 52 = nI (q_lg A T w) := by rw [f2.2.1 52 (by decide)]; exact p2
      have k123 : s2.1 123 = q2.1 123 := f2.1 123 (by decide) (by decide)
      have k124 : s2.1 124 = q2.1 124 := f2.1 124 (by decide) (by decide)
      obtain ⟨j, j1, j2, j3, j4⟩ := r_find (N := N) (s := s2) (rec13 := G_M_layParts_13 N (nI t) (nI k) (nI wet) f) (x1 := nI t) (x2 := nI k) (x3 := nI wet) (x4 := nI w) (K := q_kd A T w) (v := v) (vl := vl) (by omega) hv k51 (fun i hi => ⟨(p3 i hi).1, by rw [k123]; exact (p3 i hi).2.1⟩) N 0 (Nat.zero_le _) (by omega) (fun j hj => by omega)
      rw [L_0, j4] at hst
      have f2' : Md [106, 107, 108, 109, 123, 124] [29, 30, 31, 34, 51, 52] q2 s2 := Md_m f2 (by decide) (by decide)
      unfold G_M_layParts_80 G_M_layParts_120 G_M_layParts_149 at hst
      by_cases c : j < q_kd A T w
      · have hvl := j3 c
        have hct : q_cu A T v w ≠ 0 := by rw [← hvl]; exact (p3 j c).2.2.2
        have hcl := q_cu_le (A := A) (T := T) (v := v) w
        have v124 : s2.1 124 j = nI (q_cu A T v w) := by rw [k124, (p3 j c).2.2.1, hvl]
        rw [k51, if_neg (fun e => by have := (nI_eq (by omega) (by omega)).mp e; omega), rdA_nI (by omega) (by decide), Option.bind_some, v124, nI_1, stA_nI (by omega) (by decide), Option.bind_some, rdA_nI (by omega) (by decide), Option.bind_some, wr1_at, if_pos rfl, wr1_ne (by decide), k52, nI_1] at hst
        refine ⟨_, ⟨?_, ?_⟩, hst⟩
        · exact Md_t i2 (Md_t f2' (Md_t (Md_w (by decide) (by decide)) (Md_f (by decide))))
        · have hkd : q_kd A T (w + 1) = q_kd A T w := by rw [q_kd_t hft, hTv, if_neg hct]
          have hlg : q_lg A T (w + 1) = max (q_lg A T w) (q_cu A T v w + 1) := by rw [q_lg_t hft, hTv, q_cu_t hft, if_pos hTv]
          refine ⟨?_, ?_, vl, ?_, ?_, ?_⟩
          · rw [hkd]
            show (wr1 _ 85 52 _).1 85 51 = _
            rw [wr1_at, if_neg (by decide), wr1_ne (by decide), k51]
          · rw [hlg]
            show (wr1 _ 85 52 _).1 85 52 = _
            rw [wr1_at, if_pos rfl]
            by_cases d : q_lg A T w < q_cu A T v w + 1
            · rw [if_pos (nI_lt d (by omega)), Nat.max_eq_right (by omega)]
            · rw [if_neg (nI_nlt (by omega) (by omega)), Nat.max_eq_left (by omega)]
          · intro i hi
            rw [hkd] at hi
            obtain ⟨a1, a2, a3, a4⟩ := p3 i hi
            refine ⟨a1, ?_, ?_, ?_⟩
            · show (wr1 _ 85 52 _).1 123 i = _
              rw [wr1_ne (by decide), wr1_ne (by decide), k123]; exact a2
            · show (wr1 _ 85 52 _).1 124 i = _
              rw [wr1_ne (by decide), wr1_at, q_cu_t hft, hTv]
              by_cases d : i = j
              · rw [if_pos d, d, hvl, if_pos rfl]
              · rw [if_neg d, if_neg (fun e => d (p4 i j hi c (by rw [hvl]; exact e.symm))), k124]; exact a3
            · rw [q_cu_t hft]; split <;> omega
          · rw [hkd]; exact p4
          · intro v' hv'
            rw [hkd]
            rw [q_cu_t hft, hTv] at hv'
            by_cases d : v = v'
            · exact ⟨j, c, by rw [hvl]; exact d⟩
            · rw [if_neg d] at hv'; exact p5 v' hv'
      · have hjK : j = q_kd A T w := by omega
        have hct : q_cu A T v w = 0 := by
          apply Classical.byContradiction
          intro h
          obtain ⟨i, h1, h2⟩ := p5 v h
          exact j2 i (by omega) h2
        subst hjK
        rw [k51, if_pos rfl, stA_nI (by omega) (by decide), Option.bind_some, wr1_ne (by decide), k51, stA_nI (by omega) (by decide), Option.bind_some] at hst
        have h85 : (wr1 (wr1 s2 123 (q_kd A T w) (nI v)) 124 (q_kd A T w) 0).1 85 51 = nI (q_kd A T w) := by rw [wr1_ne (by decide), wr1_ne (by decide), k51]
        rw [h85, nI_1] at hst
        generalize hs7 : wr1 (wr1 (wr1 s2 123 (q_kd A T w) (nI v)) 124 (q_kd A T w) (nI 0)) 85 51 (nI (q_kd A T w + 1)) = s7
        have h7 : wrI (wr1 (wr1 s2 123 (q_kd A T w) (nI v)) 124 (q_kd A T w) 0) 85 51 (nI (q_kd A T w + 1)) = s7 := hs7
        rw [h7] at hst
        have a1 : s7.1 124 (q_kd A T w) = nI 0 := by rw [← hs7, wr1_ne (by decide), wr1_at, if_pos rfl]
        have a2 : s7.1 85 52 = nI (q_lg A T w) := by rw [← hs7, wr1_at, if_neg (by decide), wr1_ne (by decide), wr1_ne (by decide), k52]
        have a3 : s7.1 85 51 = nI (q_kd A T w + 1) := by rw [← hs7, wr1_at, if_pos rfl]
        have a4 : ∀ i, s7.1 123 i = if i = q_kd A T w then nI v else q2.1 123 i := by intro i; rw [← hs7, wr1_ne (by decide), wr1_ne (by decide), wr1_at, k123]
        have a5 : ∀ i, i ≠ q_kd A T w → s7.1 124 i = q2.1 124 i := by intro i hi; rw [← hs7, wr1_ne (by decide), wr1_at, if_neg hi, wr1_ne (by decide), k124]
        have a6 : Md [106, 107, 108, 109, 123, 124] [29, 30, 31, 34, 51, 52] s2 s7 := by rw [← hs7]; exact Md_t (Md_t (Md_w (by decide) (by decide)) (Md_w (by decide) (by decide))) (Md_f (by decide))
        rw [rdA_nI (by omega) (by decide), Option.bind_some, a1, nI_1, stA_nI (by omega) (by decide), Option.bind_some, rdA_nI (by omega) (by decide), Option.bind_some, wr1_at, if_pos rfl, wr1_ne (by decide), a2, nI_1] at hst
        refine ⟨_, ⟨?_, ?_⟩, hst⟩
        · exact Md_t i2 (Md_t f2' (Md_t a6 (Md_t (Md_w (by decide) (by decide)) (Md_f (by decide)))))
        · have hkd : q_kd A T (w + 1) = q_kd A T w + 1 := by rw [q_kd_t hft, hTv, if_pos hct]
          have hlg : q_lg A T (w + 1) = max (q_lg A T w) 1 := by rw [q_lg_t hft, hTv, q_cu_t hft, if_pos hTv, hct]
          refine ⟨?_, ?_, fun i => if i = q_kd A T w then v else vl i, ?_, ?_, ?_⟩
          · rw [hkd]
            show (wr1 _ 85 52 _).1 85 51 = _
            rw [wr1_at, if_neg (by decide), wr1_ne (by decide), a3]
          · rw [hlg]
            show (wr1 _ 85 52 _).1 85 52 = _
            rw [wr1_at, if_pos rfl]
            by_cases d : q_lg A T w < 0 + 1
            · rw [if_pos (nI_lt d (by omega)), Nat.max_eq_right (by omega)]
            · rw [if_neg (nI_nlt (by omega) (by omega)), Nat.max_eq_left (by omega)]
          · intro i hi
            rw [hkd] at hi
            dsimp only
            by_cases d : i = q_kd A T w
            · rw [if_pos d]
              refine ⟨hv, ?_, ?_, ?_⟩
              · show (wr1 _ 85 52 _).1 123 i = _
                rw [wr1_ne (by decide), wr1_ne (by decide), a4, if_pos d]
              · show (wr1 _ 85 52 _).1 124 i = _
                rw [wr1_ne (by decide), wr1_at, if_pos d, q_cu_t hft, if_pos hTv, hct]
              · rw [q_cu_t hft, if_pos hTv]; omega
            · rw [if_neg d]
              obtain ⟨b1, b2, b3, b4⟩ := p3 i (by omega)
              have hne : ¬ T w = vl i := fun e => j2 i (by omega) (by rw [← e]; exact hTv)
              refine ⟨b1, ?_, ?_, ?_⟩
              · show (wr1 _ 85 52 _).1 123 i = _
                rw [wr1_ne (by decide), wr1_ne (by decide), a4, if_neg d]; exact b2
              · show (wr1 _ 85 52 _).1 124 i = _
                rw [wr1_ne (by decide), wr1_at, if_neg d, a5 i d, q_cu_t hft, if_neg hne]; exact b3
              · rw [q_cu_t hft, if_neg hne]; exact b4
          · intro i i' hi hi' he
            rw [hkd] at hi hi'
            dsimp only at he
            by_cases d : i = q_kd A T w
            · by_cases d' : i' = q_kd A T w
              · rw [d, d']
              · rw [if_pos d, if_neg d'] at he
                exact absurd he.symm (j2 i' (by omega))
            · by_cases d' : i' = q_kd A T w
              · rw [if_neg d, if_pos d'] at he
                exact absurd he (j2 i (by omega))
              · rw [if_neg d, if_neg d'] at he
                exact p4 i i' (by omega) (by omega) he
          · intro v' hv'
            rw [hkd]
            rw [q_cu_t hft, hTv] at hv'
            by_cases d : v = v'
            · exact ⟨q_kd A T w, by omega, by dsimp only; rw [if_pos rfl]; exact d⟩
            · rw [if_neg d] at hv'
              obtain ⟨i, h1, h2⟩ := p5 v' hv'
              exact ⟨i, by omega, by dsimp only; rw [if_neg (by omega)]; exact h2⟩
    · rw [l1, if_pos (show nI 0 = 0 from rfl)] at hst
      refine ⟨q2, ⟨i2, ?_⟩, hst⟩
      have hkd := q_kd_f (T := T) hft
      refine ⟨by rw [hkd]; exact p1, by rw [q_lg_f hft]; exact p2, vl, ?_, ?_, ?_⟩
      · intro i hi
        rw [q_cu_f hft]
        exact p3 i (by rw [← hkd]; exact hi)
      · rw [hkd]; exact p4
      · intro v hv
        rw [hkd]
        rw [q_cu_f hft] at hv
        exact p5 v hv
  · refine ⟨?_, ?_, fun _ => 0, fun i hi => ?_, fun i j hi => ?_, fun v hv => ?_⟩
    · rw [wr1_at, if_neg (by decide), wr1_at, if_pos rfl]; rfl
    · rw [wr1_at, if_pos rfl]; rfl
    · rw [q_kd_0] at hi; omega
    · rw [q_kd_0] at hi; omega
    · exact absurd q_cu_0 hv
  · intro f ⟨s', ⟨i1, i2⟩, e⟩
    refine ⟨s', ?_, i1, i2.1, i2.2.1⟩
    refine Eq.trans e ?_
    have R2 : RP s' t A := RP_md hR i1 (by decide)
    obtain ⟨e1, e2⟩ := r_worlds ht hA R2
    show GB_M_layParts_13 N (G_M_layParts_13 N (nI t) (nI k) (nI wet) f) (nI t) (nI k) (nI wet) (nI (2 ^ q_nt A)) s' = _
    unfold GB_M_layParts_13 G_M_layParts_155
    rw [e1, Option.bind_some, e2, if_pos (nI_le (Nat.le_refl _) (by omega))]
end PAR
