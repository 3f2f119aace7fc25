/-! ===== joints and houses one to one; METRES ===== -/
/-- at PAIRS alone, one to one, and meeting in a BOX -/
def LJ (A : AP) (o : Nat → Nat) : Prop := (∀ u, o u ≠ 0 → q_st A u) ∧ (∀ u u', o u ≠ 0 → o u = o u' → u = u')
theorem LJ_jn {A : AP} {o : Nat → Nat} {x y : Nat} (h : LJ A o) (hx : q_st A x) : LJ A (q_jn o x y) := by
  obtain ⟨h1, h2⟩ := h
  refine ⟨fun u hu => ?_, fun u u' hu he => ?_⟩
  · unfold q_jn at hu
    split at hu
    · rename_i e; rw [e]; exact hx
    · split at hu
      · exact absurd rfl hu
      · exact h1 u hu
  · unfold q_jn at hu he
    by_cases c1 : u = x
    · rw [if_pos c1] at he
      by_cases c2 : u' = x
      · rw [c1, c2]
      · rw [if_neg c2] at he
        split at he
        · omega
        · rename_i c3
          exact absurd he.symm c3
    · rw [if_neg c1] at hu he
      by_cases c3 : o u = y + 1
      · rw [if_pos c3] at hu; exact absurd rfl hu
      · rw [if_neg c3] at hu he
        by_cases c2 : u' = x
        · rw [if_pos c2] at he; exact absurd he c3
        · rw [if_neg c2] at he
          split at he
          · exact absurd he hu
          · exact h2 u u' hu he
def LM (A : AP) (o : Nat → Nat) : Prop := ∀ u y, o u = y + 1 → q_fr A (y / 8) = q_tb A (u / 8)
def LX (A : AP) (L : LY) : Prop := LJ A L.1 ∧ LJ A L.2 ∧ LM A L.1
theorem LX_op {A : AP} (hA : WF A) {k : Nat} (hk : k < q_nq A + q_ns A) {L : LY} (h : LX A L) : LX A (q_op A k L) := by
  obtain ⟨h1, h2, h3, h4⟩ := hA.2.2.2.1 k hk
  obtain ⟨a, c, d⟩ := h
  unfold q_op
  by_cases h0 : q_ok A k = 0
  · rw [if_pos h0]
    refine ⟨LJ_jn a h2, c, fun u y hu => ?_⟩
    unfold q_jn at hu
    dsimp only at hu
    split at hu
    · rename_i e
      have : y = q_ow A k := by omega
      rw [this, e]
      exact (h3 h0).2
    · split at hu
      · omega
      · exact d u y hu
  · rw [if_neg h0]
    exact ⟨a, LJ_jn c h2, d⟩
theorem LX_ly {A : AP} (hA : WF A) : ∀ k, k ≤ q_nq A + q_ns A → LX A (q_ly A k) := by
  intro k
  induction k with
  | zero => intro _; exact ⟨⟨fun u h => absurd rfl h, fun u u' h => absurd rfl h⟩, ⟨fun u h => absurd rfl h, fun u u' h => absurd rfl h⟩, fun u y h => by cases h⟩
  | succ k ih => intro h; exact LX_op hA (by omega) (ih (by omega))
theorem LX_lw {A : AP} (hA : WF A) (w : Nat) : ∀ i, i ≤ q_ns A → LX A (q_lw A w i) := by
  intro i
  induction i with
  | zero => intro _; exact LX_ly hA _ (by omega)
  | succ i ih =>
    intro h
    unfold q_lw
    by_cases hu : q_und A w i
    · rw [if_pos hu]; exact ih (by omega)
    · rw [if_neg hu]; exact LX_op hA (by omega) (ih (by omega))
/-- what is joined ahead of y; where a HOUSE hangs (0 none) -/
noncomputable def q_bk (A : AP) (w y : Nat) : Nat := q_ff (q_on A w) (y + 1) 56
noncomputable def q_hm (A : AP) (w h : Nat) : Nat := q_ff (q_hg A w) (h + 1) 56
theorem q_ffj {A : AP} (hA : WF A) {o : Nat → Nat} (h : LJ A o) {y u : Nat} : q_ff o (y + 1) 56 = u + 1 ↔ o u = y + 1 := by
  constructor
  · intro e
    exact (q_ff_s e).2.1
  · intro e
    have hu := q_st_lt hA (h.1 u (by omega))
    cases hv : q_ff o (y + 1) 56 with
    | zero => exact absurd e ((q_ff_0 56).mp hv u hu.1)
    | succ v =>
      have := (q_ff_s hv).2.1
      rw [h.2 u v (by omega) (by omega)]
theorem q_bk_s {A : AP} (hA : WF A) {w y u : Nat} : q_bk A w y = u + 1 ↔ q_on A w u = y + 1 := q_ffj hA (LX_lw hA w _ (Nat.le_refl _)).1
theorem q_hm_s {A : AP} (hA : WF A) {w h u : Nat} : q_hm A w h = u + 1 ↔ q_hg A w u = h + 1 := q_ffj hA (LX_lw hA w _ (Nat.le_refl _)).2.1
theorem q_on_st {A : AP} (hA : WF A) {w y u : Nat} (h : q_on A w u = y + 1) : q_st A u ∧ q_st A y ∧ q_fr A (y / 8) = q_tb A (u / 8) := by
  have h1 := LX_lw hA w (q_ns A) (Nat.le_refl _)
  refine ⟨h1.1.1 u (show q_on A w u ≠ 0 by omega), ?_, h1.2.2 u y h⟩
  have := (q_on_v hA (w := w) (u := u)).resolve_left (by omega)
  rw [h, Nat.add_sub_cancel] at this
  exact this
theorem q_hg_st {A : AP} (hA : WF A) {w h u : Nat} (e : q_hg A w u = h + 1) : q_st A u ∧ h < 10 := by
  have h1 := LX_lw hA w (q_ns A) (Nat.le_refl _)
  have h2 := (LV_lw hA w (q_ns A) (Nat.le_refl _) u).2
  have h3 : q_hg A w u ≤ 10 := h2
  exact ⟨h1.2.1.1 u (show q_hg A w u ≠ 0 by omega), by omega⟩
theorem q_cn_mono {A : AP} {w s d d' : Nat} (h : d ≤ d') : ∀ k, q_cn A w s d k ≤ q_cn A w s d' k := by
  intro k
  induction k with
  | zero => exact Nat.le_refl 0
  | succ k ih =>
    simp only [q_cn]
    by_cases c : q_is A w k 1 ∧ q_a A k = s ∧ q_td A k ≤ d
    · rw [if_pos c, if_pos ⟨c.1, c.2.1, by omega⟩]
      omega
    · rw [if_neg c]
      omega
theorem q_nk_mono {A : AP} {w s d d' : Nat} {b : Nat × Nat} (h : d ≤ d') : q_nk A w b s d ≤ q_nk A w b s d' := by
  have := q_cn_mono (A := A) (w := w) (s := s) h (q_nt A)
  unfold q_nk
  by_cases c : b.1 = s + 1 ∧ b.2 ≤ d
  · rw [if_pos c, if_pos ⟨c.1, by omega⟩]
    omega
  · rw [if_neg c]
    omega
noncomputable def q_nx (A : AP) (w s e : Nat) : Nat := if e = 0 then q_on A w (q_out A w s) else if q_bk A w s = 0 then 0 else q_in A w (q_bk A w s - 1) + 1
def q_dk (e L d : Nat) : Nat := if e = 0 then d else L - d
/-- METRES: from the near number s of a wire, seen from end e, g metres gone -/
def q_mt (A : AP) (w : Nat) (b : Nat × Nat) (wet e : Nat) : Nat → Nat → Nat → Nat → Prop
  | 0 => fun _ _ _ => False
  | f + 1 => fun s g r => ∃ tv bv, FST e (q_ln A (s / 8)) (q_TP A w b wet s e) tv ∧ FST e (q_ln A (s / 8)) (q_BP A w b s) bv ∧ ((tv ≠ 0 ∧ r = 4 * (g + q_dk e (q_ln A (s / 8)) (tv - 1)) + 2) ∨ (tv = 0 ∧ bv ≠ 0 ∧ r = 4 * (g + q_dk e (q_ln A (s / 8)) (bv - 1))) ∨ (tv = 0 ∧ bv = 0 ∧ q_nx A w s e = 0 ∧ r = 4 * (g + q_ln A (s / 8)) + if e = 0 ∧ q_hg A w (q_out A w s) ≠ 0 then 1 else 0) ∨ (tv = 0 ∧ bv = 0 ∧ q_nx A w s e ≠ 0 ∧ q_mt A w b wet e f (q_nx A w s e - 1) (g + q_ln A (s / 8)) r))
theorem q_mt_u {A : AP} {w wet e : Nat} {b : Nat × Nat} : ∀ f f' s g r r', q_mt A w b wet e f s g r → q_mt A w b wet e f' s g r' → r = r' := by
  intro f
  induction f with
  | zero => intro f' s g r r' h; exact absurd h (fun z => z)
  | succ f ih =>
    intro f' s g r r' h h'
    cases f' with
    | zero => exact absurd h' (fun z => z)
    | succ f' =>
      obtain ⟨tv, bv, h1, h2, h3⟩ := h
      obtain ⟨tv', bv', g1, g2, g3⟩ := h'
      have e1 := FST_u h1 g1
      have e2 := FST_u h2 g2
      subst e1 e2
      rcases h3 with ⟨a, b⟩ | ⟨a, c, d⟩ | ⟨a, c, d, e⟩ | ⟨a, c, d, e⟩
      · rcases g3 with ⟨a', b'⟩ | ⟨a', c', d'⟩ | ⟨a', c', d', e'⟩ | ⟨a', c', d', e'⟩
        · omega
        · omega
        · omega
        · omega
      · rcases g3 with ⟨a', b'⟩ | ⟨a', c', d'⟩ | ⟨a', c', d', e'⟩ | ⟨a', c', d', e'⟩
        · omega
        · omega
        · omega
        · omega
      · rcases g3 with ⟨a', b'⟩ | ⟨a', c', d'⟩ | ⟨a', c', d', e'⟩ | ⟨a', c', d', e'⟩
        · omega
        · omega
        · omega
        · omega
      · rcases g3 with ⟨a', b'⟩ | ⟨a', c', d'⟩ | ⟨a', c', d', e'⟩ | ⟨a', c', d', e'⟩
        · omega
        · omega
        · omega
        · exact ih _ _ _ _ _ e e'
theorem FST_le {e L v : Nat} {P : Nat → Prop} (h : FST e L P v) : v ≤ L + 1 := by
  rcases h with ⟨rfl, _⟩ | ⟨d, h1, rfl, _⟩ <;> omega
/-- how far a way goes on -/
def q_ms (A : AP) (e s : Nat) : Nat := if e = 0 then 8 - q_tb A (s / 8) else q_tb A (s / 8)
theorem q_nx_st {A : AP} (hA : WF A) {w s e : Nat} (hs : q_st A s) (h0 : q_nx A w s e ≠ 0) : q_st A (q_nx A w s e - 1) ∧ q_ms A e (q_nx A w s e - 1) < q_ms A e s := by
  have hc := hA.1
  unfold WFc at hc
  have hx := hA.2.1 (s / 8) hs.1
  unfold q_ms
  unfold q_nx at h0 ⊢
  by_cases he : e = 0
  · rw [if_pos he] at h0
    simp only [if_pos he]
    obtain ⟨y, hy⟩ : ∃ y, q_on A w (q_out A w s) = y + 1 := ⟨q_on A w (q_out A w s) - 1, by omega⟩
    obtain ⟨a1, a2, a3⟩ := q_on_st hA hy
    rw [hy, Nat.add_sub_cancel]
    refine ⟨a2, ?_⟩
    have hy2 := hA.2.1 (y / 8) a2.1
    have := (q_out_st hA (w := w) (s := s)).2
    rw [this] at a3
    omega
  · rw [if_neg he] at h0
    simp only [if_neg he]
    by_cases hb : q_bk A w s = 0
    · rw [if_pos hb] at h0; exact absurd rfl h0
    · obtain ⟨u, hu⟩ : ∃ u, q_bk A w s = u + 1 := ⟨q_bk A w s - 1, by omega⟩
      obtain ⟨a1, a2, a3⟩ := q_on_st hA ((q_bk_s hA).mp hu)
      rw [if_neg hb, hu, Nat.add_sub_cancel, Nat.add_sub_cancel]
      obtain ⟨b1, b2⟩ := q_in_st hA (w := w) (s := u)
      refine ⟨b1.mpr a1, ?_⟩
      rw [b2]
      omega
theorem q_ms_pos {A : AP} (hA : WF A) {s e : Nat} (hs : q_st A s) : 1 ≤ q_ms A e s ∧ q_ms A e s ≤ 7 := by
  have hc := hA.1
  unfold WFc at hc
  have hx := hA.2.1 (s / 8) hs.1
  unfold q_ms
  split <;> omega
theorem q_mt_le {A : AP} (hA : WF A) {w wet e : Nat} {b : Nat × Nat} : ∀ f s g r, q_st A s → q_mt A w b wet e f s g r → r ≤ 4 * (g + 99 * f) + 2 := by
  intro f
  induction f with
  | zero => intro s g r _ h; exact absurd h (fun z => z)
  | succ f ih =>
    intro s g r hs h
    obtain ⟨tv, bv, h1, h2, h3⟩ := h
    have hx := hA.2.1 (s / 8) hs.1
    have l1 := FST_le h1
    have l2 := FST_le h2
    have hd : ∀ d, d ≤ q_ln A (s / 8) → q_dk e (q_ln A (s / 8)) d ≤ q_ln A (s / 8) := by
      intro d hd
      unfold q_dk
      split <;> omega
    rcases h3 with ⟨a, b⟩ | ⟨a, c, d⟩ | ⟨a, c, d, e⟩ | ⟨a, c, d, e⟩
    · have := hd (tv - 1) (by omega)
      omega
    · have := hd (bv - 1) (by omega)
      omega
    · split at e <;> omega
    · have := ih _ _ _ (q_nx_st hA hs d).1 e
      omega
section MET
variable {N t w wet : Nat} {s : mst} {A : AP} {b : Nat × Nat}
theorem r_fb30 (hN : 1000 ≤ N) (ht : t < 6) (hG : GW A w b wet) (hR : RP s t A) (hW : RW s t A w b wet) {x p d : Nat} (hx : x < q_nc A) (hp : p < q_pr A x) (hd : d ≤ 99) (rc : Int32 → mst → Option (Int32 × mst)) (x3 x4 : Int32) : (q_BP A w b (8 * x + p) d ∧ G_M_firstBreak_30 N rc (nI x) (nI p) x3 x4 (nI d) s = some (nI d, s)) ∨ (¬ q_BP A w b (8 * x + p) d ∧ G_M_firstBreak_30 N rc (nI x) (nI p) x3 x4 (nI d) s = rc (x4 + 1) s) := by
  have hA := hG.1
  have hxx := hA.2.1 x hx
  have k1 : q_nk A w b (8 * x + p) d ≤ 10 := nk10 hG
  have k2 : q_nk A w b (8 * x + p) (d - 1) ≤ 10 := nk10 hG
  have km : q_nk A w b (8 * x + p) (d - 1) ≤ q_nk A w b (8 * x + p) d := q_nk_mono (by omega)
  unfold G_M_firstBreak_30 G_M_firstBreak_59 G_M_firstBreak_63 q_BP
  rw [r_breaksTo (by omega) ht hG hR hW hx (by omega) (by omega), Option.bind_some]
  dsimp only
  by_cases h0 : d = 0
  · subst h0
    rw [if_pos nI_0, if_pos rfl, L_0, pk_sub (by omega), Nat.sub_zero]
    by_cases hb : 0 < q_nk A w b (8 * x + p) 0
    · exact Or.inl ⟨hb, if_neg (nI_ge hb (by omega))⟩
    · exact Or.inr ⟨hb, if_pos (nI_le (by omega) (by omega))⟩
  · rw [if_neg (nI_ne0 (by omega) (by omega)), if_neg h0, L_1, pk_sub (by omega), r_breaksTo (by omega) ht hG hR hW hx (by omega) (by omega), Option.bind_some]
    dsimp only
    rw [pk_sub km]
    by_cases hb : q_nk A w b (8 * x + p) (d - 1) < q_nk A w b (8 * x + p) d
    · exact Or.inl ⟨hb, if_neg (nI_nle (by omega) (by omega))⟩
    · exact Or.inr ⟨hb, if_pos (by rw [show q_nk A w b (8 * x + p) d - q_nk A w b (8 * x + p) (d - 1) = 0 by omega]; decide)⟩
theorem r_firstBreak (hN : 1000 ≤ N) (ht : t < 6) (hG : GW A w b wet) (hR : RP s t A) (hW : RW s t A w b wet) {x p e : Nat} (hx : x < q_nc A) (hp : p < q_pr A x) (he : e < 2) : ∃ v, G_M_firstBreak N s (nI x) (nI p) (nI e) = some (cd v, s) ∧ FST e (q_ln A x) (q_BP A w b (8 * x + p)) v := by
  have hA := hG.1
  have hxx := hA.2.1 x hx
  unfold G_M_firstBreak
  have hlo := r_longOf (N := N) hR hW ht hA hx
  refine Exists.elim (lpQ (F := fun f k s => G_M_firstBreak_3 N (nI x) (nI p) (nI e) f (nI k) s) (n := q_ln A x + 1) (I := fun k s' => s' = s ∧ ∀ k', k' < k → ¬ q_BP A w b (8 * x + p) (q_dk e (q_ln A x) k')) (Q := fun r => ∃ v, r = (cd v, s) ∧ FST e (q_ln A x) (q_BP A w b (8 * x + p)) v) ?_ ?_ N 0 s (by omega) (by omega) ⟨rfl, fun k' hk' => by omega⟩) ?_
  · intro f k s' hk ⟨i1, i2⟩
    subst i1
    have hdk : q_dk e (q_ln A x) k ≤ q_ln A x := by unfold q_dk; split <;> omega
    have hst : G_M_firstBreak_3 N (nI x) (nI p) (nI e) (f + 1) (nI k) s' = G_M_firstBreak_30 N (G_M_firstBreak_3 N (nI x) (nI p) (nI e) f) (nI x) (nI p) (nI e) (nI k) (nI (q_dk e (q_ln A x) k)) s' := by
      show GB_M_firstBreak_3 N (G_M_firstBreak_3 N (nI x) (nI p) (nI e) f) (nI x) (nI p) (nI e) (nI k) s' = _
      unfold GB_M_firstBreak_3
      rw [hlo, Option.bind_some, if_neg (nI_nlt (by omega) (by omega))]
      dsimp only
      unfold q_dk
      by_cases he0 : e = 0
      · rw [if_pos he0, he0, if_pos nI_0]
      · rw [if_neg he0, if_neg (nI_ne0 (by omega) (by omega)), hlo, Option.bind_some]
        dsimp only
        rw [pk_sub (by omega)]
    rcases r_fb30 hN ht hG hR hW hx hp (show q_dk e (q_ln A x) k ≤ 99 by omega) (G_M_firstBreak_3 N (nI x) (nI p) (nI e) f) (nI e) (nI k) with ⟨a1, a2⟩ | ⟨a1, a2⟩
    · right
      refine ⟨_, ⟨q_dk e (q_ln A x) k + 1, by rw [cd_s], Or.inr ⟨_, hdk, rfl, a1, fun d' hd' hb' => ?_⟩⟩, hst.trans a2⟩
      by_cases he0 : e = 0
      · rw [if_pos he0]
        unfold q_dk at i2 ⊢
        rw [if_pos he0]
        by_cases hlt : d' < k
        · have := i2 d' hlt
          rw [if_pos he0] at this
          exact absurd hb' this
        · omega
      · rw [if_neg he0]
        unfold q_dk at i2 ⊢
        rw [if_neg he0]
        by_cases hlt : q_ln A x - d' < k
        · have := i2 (q_ln A x - d') hlt
          rw [if_neg he0, show q_ln A x - (q_ln A x - d') = d' by omega] at this
          exact absurd hb' this
        · omega
    · left
      refine ⟨s', ⟨rfl, fun k' hk' => ?_⟩, hst.trans ?_⟩
      · by_cases hkk : k' = k
        · rw [hkk]; exact a1
        · exact i2 k' (by omega)
      · rw [a2, nI_1]
  · intro f s' ⟨i1, i2⟩
    subst i1
    refine ⟨_, ⟨0, rfl, Or.inl ⟨rfl, fun d hd hb => ?_⟩⟩, ?_⟩
    · have := i2 (q_dk e (q_ln A x) d) (by unfold q_dk; split <;> omega)
      apply this
      unfold q_dk
      by_cases he0 : e = 0
      · rw [if_pos he0, if_pos he0]; exact hb
      · rw [if_neg he0, if_neg he0, show q_ln A x - (q_ln A x - d) = d by omega]; exact hb
    · show GB_M_firstBreak_3 N (G_M_firstBreak_3 N (nI x) (nI p) (nI e) f) (nI x) (nI p) (nI e) (nI (q_ln A x + 1)) s' = _
      unfold GB_M_firstBreak_3 G_M_firstBreak_72
      rw [hlo, Option.bind_some, if_pos (nI_lt (by omega) (by omega)), cd_0]
  · intro r ⟨⟨v, hv, hf⟩, e2⟩
    subst hv
    exact ⟨v, e2, hf⟩
theorem r_joinedAhead (hN : 1000 ≤ N) (hA : WF A) (hW : RW s t A w b wet) {y : Nat} (hy : q_st A y) : G_M_joinedAhead N s (nI (y / 8)) (nI (y % 8)) = some (cd (r6 (q_bk A w y)), s) := by
  have hyl := q_st_lt hA hy
  have h106 := hW.2.2.2.2.2.1
  unfold G_M_joinedAhead
  refine Exists.elim (lpQ (F := fun f k s => G_M_joinedAhead_2 N (nI (y / 8)) (nI (y % 8)) f (nI k) s) (n := 42) (I := fun k s' => s' = s ∧ ∀ j, j < k → q_on A w (s8 j) ≠ y + 1) (Q := fun r => r = (cd (r6 (q_bk A w y)), s)) ?_ ?_ N 0 s (by omega) (by omega) ⟨rfl, fun k' hk' => by omega⟩) ?_
  · intro f i s' hi ⟨i1, i2⟩
    subst i1
    have e1 : s'.1 106 i = cd (r6 (q_on A w (s8 i))) := (h106 i hi).1
    have hv := q_on_v hA (w := w) (u := s8 i)
    have hle := r6_le hA hv
    have hq := r6_eq hA hv hy
    have hst : G_M_joinedAhead_2 N (nI (y / 8)) (nI (y % 8)) (f + 1) (nI i) s' = if cd (r6 (q_on A w (s8 i))) = nI (6 * (y / 8) + y % 8) then some (nI i, s') else G_M_joinedAhead_2 N (nI (y / 8)) (nI (y % 8)) f (nI (i + 1)) s' := by
      show GB_M_joinedAhead_2 N (G_M_joinedAhead_2 N (nI (y / 8)) (nI (y % 8)) f) (nI (y / 8)) (nI (y % 8)) (nI i) s' = _
      unfold GB_M_joinedAhead_2 G_M_joinedAhead_23
      rw [L_42, if_neg (nI_ge hi (by omega)), rdA_nI hi (by decide), Option.bind_some, e1, L_6, nI_mul, nI_add, nI_1]
    by_cases c : q_on A w (s8 i) = y + 1
    · right
      refine ⟨_, ?_, hst.trans (if_pos ((cd_nI (by omega) (by omega)).mpr (hq.mpr c)))⟩
      rw [(q_bk_s hA).mpr c, r6_s, cd_s, (s8_st hi).1, (s8_st hi).2, show 6 * (i / 6) + i % 6 = i by omega]
    · left
      refine ⟨s', ⟨rfl, fun j hj => ?_⟩, hst.trans (if_neg (fun z => c (hq.mp ((cd_nI (by omega) (by omega)).mp z))))⟩
      by_cases hji : j = i
      · rw [hji]; exact c
      · exact i2 j (by omega)
  · intro f s' ⟨i1, i2⟩
    subst i1
    refine ⟨_, rfl, ?_⟩
    show GB_M_joinedAhead_2 N (G_M_joinedAhead_2 N (nI (y / 8)) (nI (y % 8)) f) (nI (y / 8)) (nI (y % 8)) (nI 42) s' = _
    unfold GB_M_joinedAhead_2 G_M_joinedAhead_31
    rw [if_pos (by decide)]
    have h0 : q_bk A w y = 0 := by
      cases hq : q_bk A w y with
      | zero => rfl
      | succ u =>
        have h1 := (q_bk_s hA).mp hq
        have h2 := q_st_lt hA (q_on_st hA h1).1
        have h3 := i2 (6 * (u / 8) + u % 8) (by omega)
        rw [s8_6 h2.2.1] at h3
        exact absurd h1 h3
    rw [h0, r6_0, cd_0]
  · intro r ⟨hv, e2⟩
    subst hv
    exact e2
theorem r_hangsAt (hN : 1000 ≤ N) (hA : WF A) (hW : RW s t A w b wet) {h : Nat} (hh : h < 10) : G_M_hangsAt N s (nI h) = some (cd (r6 (q_hm A w h)), s) := by
  have h106 := hW.2.2.2.2.2.1
  unfold G_M_hangsAt
  refine Exists.elim (lpQ (F := fun f k s => G_M_hangsAt_2 N (nI h) f (nI k) s) (n := 42) (I := fun k s' => s' = s ∧ ∀ j, j < k → q_hg A w (s8 j) ≠ h + 1) (Q := fun r => r = (cd (r6 (q_hm A w h)), s)) ?_ ?_ N 0 s (by omega) (by omega) ⟨rfl, fun k' hk' => by omega⟩) ?_
  · intro f i s' hi ⟨i1, i2⟩
    subst i1
    have e1 : s'.1 107 i = cd (q_hg A w (s8 i)) := (h106 i hi).2
    have hle : q_hg A w (s8 i) ≤ 10 := (LV_lw hA w (q_ns A) (Nat.le_refl _) (s8 i)).2
    have hst : G_M_hangsAt_2 N (nI h) (f + 1) (nI i) s' = if cd (q_hg A w (s8 i)) = nI h then some (nI i, s') else G_M_hangsAt_2 N (nI h) f (nI (i + 1)) s' := by
      show GB_M_hangsAt_2 N (G_M_hangsAt_2 N (nI h) f) (nI h) (nI i) s' = _
      unfold GB_M_hangsAt_2 G_M_hangsAt_18
      rw [L_42, if_neg (nI_ge hi (by omega)), rdA_nI hi (by decide), Option.bind_some, e1, nI_1]
    by_cases c : q_hg A w (s8 i) = h + 1
    · right
      refine ⟨_, ?_, hst.trans (if_pos ((cd_nI (by omega) (by omega)).mpr c))⟩
      rw [(q_hm_s hA).mpr c, r6_s, cd_s, (s8_st hi).1, (s8_st hi).2, show 6 * (i / 6) + i % 6 = i by omega]
    · left
      refine ⟨s', ⟨rfl, fun j hj => ?_⟩, hst.trans (if_neg (fun z => c ((cd_nI (by omega) (by omega)).mp z)))⟩
      by_cases hji : j = i
      · rw [hji]; exact c
      · exact i2 j (by omega)
  · intro f s' ⟨i1, i2⟩
    subst i1
    refine ⟨_, rfl, ?_⟩
    show GB_M_hangsAt_2 N (G_M_hangsAt_2 N (nI h) f) (nI h) (nI 42) s' = _
    unfold GB_M_hangsAt_2 G_M_hangsAt_26
    rw [if_pos (by decide)]
    have h0 : q_hm A w h = 0 := by
      cases hq : q_hm A w h with
      | zero => rfl
      | succ u =>
        have h1 := (q_hm_s hA).mp hq
        have h2 := q_st_lt hA (q_hg_st hA h1).1
        have h3 := i2 (6 * (u / 8) + u % 8) (by omega)
        rw [s8_6 h2.2.1] at h3
        exact absurd h1 h3
    rw [h0, r6_0, cd_0]
  · intro r ⟨hv, e2⟩
    subst hv
    exact e2
theorem r_met22 (hN : 1000 ≤ N) (ht : t < 6) (hG : GW A w b wet) (hR : RP s t A) (hW : RW s t A w b wet) {e : Nat} (he : e < 2) : ∀ m u g fuel, q_st A u → q_ms A e u ≤ m → m < fuel → g + 99 * m ≤ 1000 → ∃ r, q_mt A w b wet e m u g r ∧ G_M_metresAt_22 N (nI e) fuel (nI (u / 8)) (nI (u % 8)) (nI g) s = some (nI r, s) := by
  have hA := hG.1
  intro m
  induction m with
  | zero => intro u g fuel hu hm; have := q_ms_pos hA (e := e) hu; omega
  | succ m ih =>
    intro u g fuel hu hm hf hg
    obtain ⟨fuel, rfl⟩ : ∃ f, fuel = f + 1 := ⟨fuel - 1, by omega⟩
    have hul := q_st_lt hA hu
    have hxx := hA.2.1 (u / 8) hu.1
    have hu8 : 8 * (u / 8) + u % 8 = u := by omega
    obtain ⟨tv, t1, t2⟩ := r_firstTouch hN ht hG hR hW hu.1 hu.2 he
    obtain ⟨bv, b1, b2⟩ := r_firstBreak hN ht hG hR hW hu.1 hu.2 he
    rw [hu8] at t2 b2
    have hlo := r_longOf (N := N) hR hW ht hA hu.1
    have tl := FST_le t2
    have bl := FST_le b2
    show ∃ r, q_mt A w b wet e (m + 1) u g r ∧ GB_M_metresAt_22 N (G_M_metresAt_22 N (nI e) fuel) (nI e) (nI (u / 8)) (nI (u % 8)) (nI g) s = some (nI r, s)
    unfold GB_M_metresAt_22
    rw [t1, Option.bind_some]
    dsimp only
    by_cases ht0 : tv = 0
    · rw [if_pos ((cd_n1 (by omega)).mpr ht0), b1, Option.bind_some]
      dsimp only
      by_cases hb0 : bv = 0
      · rw [if_pos ((cd_n1 (by omega)).mpr hb0), hlo, Option.bind_some]
        dsimp only
        have ho := q_out_st hA (w := w) (s := u)
        have hou := ho.1.mpr hu
        have hol := q_st_lt hA hou
        have e108 : s.1 108 (6 * (u / 8) + u % 8) = nI (q_out A w u % 8) := by rw [hW.2.2.2.2.2.2 _ (by omega), s8_6 hul.2.1]
        have ho6 : 6 * (u / 8) + q_out A w u % 8 < 42 := by omega
        have hs8o : s8 (6 * (u / 8) + q_out A w u % 8) = q_out A w u := by
          have := s8_6 hol.2.1
          rw [ho.2] at this
          exact this
        have e106 : s.1 106 (6 * (u / 8) + q_out A w u % 8) = cd (r6 (q_on A w (q_out A w u))) := by
          have := (hW.2.2.2.2.2.1 _ ho6).1
          rw [hs8o] at this
          exact this
        have e107 : s.1 107 (6 * (u / 8) + q_out A w u % 8) = cd (q_hg A w (q_out A w u)) := by
          have := (hW.2.2.2.2.2.1 _ ho6).2
          rw [hs8o] at this
          exact this
        have hhg : q_hg A w (q_out A w u) ≤ 10 := (LV_lw hA w (q_ns A) (Nat.le_refl _) (q_out A w u)).2
        have hv := q_on_v hA (w := w) (u := q_out A w u)
        have hle := r6_le hA hv
        rw [L_6, nI_mul, nI_add, rdA_nI (by omega) (by decide), Option.bind_some, e108, nI_add, nI_add]
        by_cases he0 : e = 0
        · rw [if_pos (by rw [he0]; rfl), rdA_nI ho6 (by decide), Option.bind_some, e106]
          unfold G_M_metresAt_160
          by_cases hn0 : q_on A w (q_out A w u) = 0
          · rw [if_pos (by rw [hn0, r6_0, cd_0])]
            unfold G_M_metresAt_168 G_M_metresAt_191 G_M_metresAt_192
            rw [if_pos (by rw [he0]; rfl), rdA_nI ho6 (by decide), Option.bind_some, e107, L_4, nI_mul]
            refine ⟨4 * (g + q_ln A (u / 8)) + if e = 0 ∧ q_hg A w (q_out A w u) ≠ 0 then 1 else 0, ⟨tv, bv, t2, b2, Or.inr (Or.inr (Or.inl ⟨ht0, hb0, by unfold q_nx; rw [if_pos he0]; exact hn0, rfl⟩))⟩, ?_⟩
            by_cases hh0 : q_hg A w (q_out A w u) = 0
            · rw [if_pos ((cd_n1 (by omega)).mpr hh0), if_neg (fun z => z.2 hh0), L_0, nI_add]
            · rw [if_neg (fun z => hh0 ((cd_n1 (by omega)).mp z)), if_pos ⟨he0, hh0⟩, L_1, nI_add]
          · obtain ⟨y, hy⟩ : ∃ y, q_on A w (q_out A w u) = y + 1 := ⟨q_on A w (q_out A w u) - 1, by omega⟩
            have hnx : q_nx A w u e = y + 1 := by unfold q_nx; rw [if_pos he0]; exact hy
            obtain ⟨n1, n2⟩ := q_nx_st hA hu (w := w) (e := e) (by omega)
            rw [hnx, Nat.add_sub_cancel] at n1 n2
            have nl := q_st_lt hA n1
            obtain ⟨r, r1, r2⟩ := ih y (g + q_ln A (u / 8)) fuel n1 (by omega) (by omega) (by omega)
            refine ⟨r, ⟨tv, bv, t2, b2, Or.inr (Or.inr (Or.inr ⟨ht0, hb0, by omega, by rw [hnx, Nat.add_sub_cancel]; exact r1⟩))⟩, ?_⟩
            rw [hy, r6_s, cd_s, if_neg (nI_n1 (by omega)), if_pos (by rw [he0]; rfl)]
            unfold G_M_metresAt_224
            rw [L_6, pk_rem (by omega) (by omega) (by omega), pk_div (by omega) (by omega) (by omega), show (6 * (y / 8) + y % 8) / 6 = y / 8 by omega, show (6 * (y / 8) + y % 8) % 6 = y % 8 by omega]
            exact r2
        · rw [if_neg (nI_ne0 (by omega) (by omega)), r_joinedAhead hN hA hW hu, Option.bind_some]
          dsimp only
          unfold G_M_metresAt_160
          by_cases hn0 : q_bk A w u = 0
          · rw [if_pos (by rw [hn0, r6_0, cd_0])]
            unfold G_M_metresAt_168 G_M_metresAt_191 G_M_metresAt_192
            rw [if_neg (nI_ne0 (by omega) (by omega)), L_4, nI_mul, L_0, nI_add]
            refine ⟨4 * (g + q_ln A (u / 8)) + 0, ⟨tv, bv, t2, b2, Or.inr (Or.inr (Or.inl ⟨ht0, hb0, by unfold q_nx; rw [if_neg he0, if_pos hn0], by rw [if_neg (fun z => he0 z.1)]⟩))⟩, rfl⟩
          · obtain ⟨y, hy⟩ : ∃ y, q_bk A w u = y + 1 := ⟨q_bk A w u - 1, by omega⟩
            have hnx : q_nx A w u e = q_in A w y + 1 := by unfold q_nx; rw [if_neg he0, if_neg hn0, hy, Nat.add_sub_cancel]
            obtain ⟨n1, n2⟩ := q_nx_st hA hu (w := w) (e := e) (by omega)
            rw [hnx, Nat.add_sub_cancel] at n1 n2
            have nl := q_st_lt hA n1
            have hys := (q_in_st hA (w := w) (s := y)).1.mp n1
            have hy8 := (q_in_st hA (w := w) (s := y)).2
            have hyl := q_st_lt hA hys
            obtain ⟨r, r1, r2⟩ := ih (q_in A w y) (g + q_ln A (u / 8)) fuel n1 (by omega) (by omega) (by omega)
            refine ⟨r, ⟨tv, bv, t2, b2, Or.inr (Or.inr (Or.inr ⟨ht0, hb0, by omega, by rw [hnx, Nat.add_sub_cancel]; exact r1⟩))⟩, ?_⟩
            rw [hy, r6_s, cd_s, if_neg (nI_n1 (by omega)), if_neg (nI_ne0 (by omega) (by omega))]
            rw [L_6, pk_rem (by omega) (by omega) (by omega), pk_div (by omega) (by omega) (by omega), show (6 * (y / 8) + y % 8) / 6 = y / 8 by omega, show (6 * (y / 8) + y % 8) % 6 = y % 8 by omega, r_cameAs (by omega) ht hA hR hW hys.1 hys.2, Option.bind_some]
            unfold G_M_metresAt_224
            dsimp only
            rw [show 8 * (y / 8) + y % 8 = y by omega, ← hy8]
            exact r2
      · obtain ⟨d, rfl⟩ : ∃ d, bv = d + 1 := ⟨bv - 1, by omega⟩
        rw [if_neg (fun z => hb0 ((cd_n1 (by omega)).mp z)), cd_s]
        refine ⟨4 * (g + q_dk e (q_ln A (u / 8)) d), ⟨tv, d + 1, t2, b2, Or.inr (Or.inl ⟨ht0, hb0, rfl⟩)⟩, ?_⟩
        unfold G_M_metresAt_82 G_M_metresAt_103 q_dk
        by_cases he0 : e = 0
        · rw [if_pos (by rw [he0]; rfl), if_pos he0, nI_add, L_4, nI_mul]
        · rw [if_neg (nI_ne0 (by omega) (by omega)), hlo, Option.bind_some, if_neg he0]
          dsimp only
          rw [pk_sub (by omega), nI_add, L_4, nI_mul]
    · obtain ⟨d, rfl⟩ : ∃ d, tv = d + 1 := ⟨tv - 1, by omega⟩
      rw [if_neg (fun z => ht0 ((cd_n1 (by omega)).mp z)), cd_s]
      refine ⟨4 * (g + q_dk e (q_ln A (u / 8)) d) + 2, ⟨d + 1, bv, t2, b2, Or.inl ⟨ht0, rfl⟩⟩, ?_⟩
      unfold G_M_metresAt_39 G_M_metresAt_60 q_dk
      by_cases he0 : e = 0
      · rw [if_pos (by rw [he0]; rfl), if_pos he0, nI_add, L_4, nI_mul, L_2, nI_add]
      · rw [if_neg (nI_ne0 (by omega) (by omega)), hlo, Option.bind_some, if_neg he0]
        dsimp only
        rw [pk_sub (by omega), nI_add, L_4, nI_mul, L_2, nI_add]
/-- METRES at a PAIR, by the numbers of an end -/
def MT (A : AP) (w : Nat) (b : Nat × Nat) (wet u e r : Nat) : Prop := r < 3000 ∧ ∃ f, q_mt A w b wet e f (if e = 0 then u else q_in A w u) 0 r
theorem MT_u {u e r r' : Nat} (h : MT A w b wet u e r) (h' : MT A w b wet u e r') : r = r' := by
  obtain ⟨_, f, hf⟩ := h
  obtain ⟨_, f', hf'⟩ := h'
  exact q_mt_u f f' _ _ _ _ hf hf'
theorem r_metresAt (hN : 1000 ≤ N) (ht : t < 6) (hG : GW A w b wet) (hR : RP s t A) (hW : RW s t A w b wet) {u e : Nat} (hu : q_st A u) (he : e < 2) : ∃ r, MT A w b wet u e r ∧ G_M_metresAt N s (nI (u / 8)) (nI (u % 8)) (nI e) = some (nI r, s) := by
  have hA := hG.1
  unfold G_M_metresAt G_M_metresAt_17
  by_cases he0 : e = 0
  · obtain ⟨r, r1, r2⟩ := r_met22 hN ht hG hR hW he 7 u 0 N hu (q_ms_pos hA hu).2 (by omega) (by omega)
    have := q_mt_le hA 7 u 0 r hu r1
    refine ⟨r, ⟨by omega, 7, by rw [if_pos he0]; exact r1⟩, ?_⟩
    rw [if_pos (by rw [he0]; rfl)]
    exact r2
  · have hi := q_in_st hA (w := w) (s := u)
    have hiu := hi.1.mpr hu
    obtain ⟨r, r1, r2⟩ := r_met22 hN ht hG hR hW he 7 (q_in A w u) 0 N hiu (q_ms_pos hA hiu).2 (by omega) (by omega)
    have := q_mt_le hA 7 _ 0 r hiu r1
    refine ⟨r, ⟨by omega, 7, by rw [if_neg he0]; exact r1⟩, ?_⟩
    rw [if_neg (nI_ne0 (by omega) (by omega)), r_cameAs (by omega) ht hA hR hW hu.1 hu.2, Option.bind_some]
    dsimp only
    rw [show 8 * (u / 8) + u % 8 = u by omega, ← hi.2]
    exact r2
end MET
