/-! ===== the class lays the wires of a WORLD ===== -/
theorem vsI_ws {s : mst} {k n : Nat} {i x : Int32} : vsI s k n i x = ws s k n i x := rfl
def updN (f : Nat → Nat) (k v : Nat) : Nat → Nat := fun j => if j = k then v else f j
theorem updN_s {f : Nat → Nat} {k v : Nat} : updN f k v k = v := if_pos rfl
theorem updN_n {f : Nat → Nat} {k v j : Nat} (h : j ≠ k) : updN f k v j = f j := if_neg h
/-- crossed wires -/
def CO (s : mst) (o i : Nat → Nat) : Prop := ∀ u, u < 56 → s.1 12 u = nI (o u) ∧ s.1 13 u = nI (i u)
def q_ct (bw bm : Nat → Nat) (u d : Nat) : Nat → Nat
  | 0 => 0
  | n + 1 => q_ct bw bm u d n + if bw n = u ∧ bm n ≤ d then 1 else 0
theorem q_ct_c {bw bm bw' bm' : Nat → Nat} {u d : Nat} : ∀ n, (∀ i, i < n → bw i = bw' i ∧ bm i = bm' i) → q_ct bw bm u d n = q_ct bw' bm' u d n := by
  intro n
  induction n with
  | zero => intro _; rfl
  | succ n ih =>
    intro h
    obtain ⟨a, b⟩ := h n (by omega)
    simp only [q_ct]
    rw [ih (fun i hi => h i (by omega)), a, b]
/-- BREAKS: f u d of them on wire u up to d metres -/
def CB (s : mst) (f : Nat → Nat → Nat) (m : Nat) : Prop := (∃ (n : Nat) (bw bm : Nat → Nat), n ≤ m ∧ s.1 6 11 = nI n ∧ (∀ i, i < n → s.1 15 i = nI (bw i) ∧ s.1 16 i = nI (bm i) ∧ bw i < 56 ∧ bm i ≤ 99) ∧ ∀ u d, q_ct bw bm u d n = f u d) ∧ ∀ u, u < 56 → s.1 14 u = nI (f u 99)
/-- TOUCHES -/
def CT (s : mst) (T : Nat → Nat → Nat → Prop) (m : Nat) : Prop := ∃ (n : Nat) (ta tb tm : Nat → Nat), n ≤ m ∧ s.1 6 12 = nI n ∧ (∀ i, i < n → s.1 17 i = nI (ta i) ∧ s.1 18 i = nI (tb i) ∧ s.1 19 i = nI (tm i) ∧ ta i < 56 ∧ tb i < 56 ∧ tm i ≤ 99) ∧ ∀ a c d, T a c d ↔ ∃ i, i < n ∧ ta i = a ∧ tb i = c ∧ tm i = d
section LAYC
variable {h0 : Nat → pm_C} {B : Nat} {D : Nat → pd} {hi z : Nat} {s : mst} {N n L Y P : Nat} {A : AP}
theorem c_cross (hf : FX D hi) {o i : Nat → Nat} {a c : Nat} (h : CO s o i) (hio : ∀ u, i (o u) = u) (hoi : ∀ u, o (i u) = u) (ha : a < 56) (hc : c < 56) (hia : i a < 56) (hic : i c < 56) (hac : a ≠ c) : ∃ s', F_Wires_cross N (mkM h0 B D hi z s) (B + 6) (nI a) (nI c) = some (mkM h0 B D hi z (s')) ∧ Fm (fun k => k = 12 ∨ k = 13) s s' ∧ CO s' (fun u => q_sw a c (o u)) (fun u => i (q_sw a c u)) := by
  rw [sg_Wires_cross hf]
  unfold G_Wires_cross
  rw [Option.map_some, vat_nI ha (by decide), vat_nI hc (by decide), (h a ha).2, (h c hc).2]
  simp only [vsI_ws]
  rw [ws_nI ha (by decide), ws_nI hc (by decide), ws_nI hia (by decide), ws_nI hic (by decide)]
  refine ⟨_, rfl, Fm_t (Fm_t (Fm_t (Fm_w (Or.inr rfl)) (Fm_w (Or.inr rfl))) (Fm_w (Or.inl rfl))) (Fm_w (Or.inl rfl)), fun u hu => ?_⟩
  have hne : i a ≠ i c := fun e => hac (by rw [← hoi a, e, hoi c])
  obtain ⟨h1, h2⟩ := h u hu
  refine ⟨?_, ?_⟩
  · rw [wr1_at, wr1_at, wr1_ne (by decide), wr1_ne (by decide), h1]
    show _ = nI (q_sw a c (o u))
    unfold q_sw
    by_cases e1 : u = i c
    · rw [if_pos e1, e1, hoi, if_neg (fun e => hac e.symm), if_pos rfl]
    · rw [if_neg e1]
      by_cases e2 : u = i a
      · rw [if_pos e2, e2, hoi, if_pos rfl]
      · rw [if_neg e2, if_neg (fun e => e2 (by rw [← e, hio])), if_neg (fun e => e1 (by rw [← e, hio]))]
  · rw [wr1_ne (by decide), wr1_ne (by decide), wr1_at, wr1_at, h2]
    show _ = nI (i (q_sw a c u))
    unfold q_sw
    by_cases e1 : u = c
    · rw [if_pos e1, e1, if_neg (fun e => hac e.symm), if_pos rfl]
    · rw [if_neg e1]
      by_cases e2 : u = a
      · rw [if_pos e2, if_pos e2]
      · rw [if_neg e2, if_neg e2, if_neg e1]
theorem c_cut (hf : FX D hi) {f : Nat → Nat → Nat} {m u0 d0 : Nat} (h : CB s f m) (hm : m < 10) (hu : u0 < 56) (hd : d0 ≤ 99) : ∃ s', F_Wires_cut N (mkM h0 B D hi z s) (B + 6) (nI u0) (nI d0) = some (mkM h0 B D hi z (s')) ∧ Fm (fun k => k = 6 ∨ k = 14 ∨ k = 15 ∨ k = 16) s s' ∧ (∀ j, j ≠ 11 → s'.1 6 j = s.1 6 j) ∧ CB s' (fun u d => f u d + if u = u0 ∧ d0 ≤ d then 1 else 0) (m + 1) := by
  obtain ⟨⟨n, bw, bm, h1, h2, h3, h4⟩, h5⟩ := h
  rw [sg_Wires_cut hf]
  unfold G_Wires_cut G_Wires_cut_64
  rw [h2, L_10, if_neg (nI_ge (show n < 10 by omega) (by decide))]
  simp only [vsI_ws]
  rw [ws_nI (show n < 10 by omega) (by decide)]
  have e1 : (wr1 s 15 n (nI u0)).1 6 11 = nI n := by rw [wr1_ne (by decide)]; exact h2
  rw [e1, ws_nI (show n < 10 by omega) (by decide), vat_nI hu (by decide)]
  have e2 : (wr1 (wr1 s 15 n (nI u0)) 16 n (nI d0)).1 14 u0 = nI (f u0 99) := by rw [wr1_ne (by decide), wr1_ne (by decide)]; exact h5 u0 hu
  rw [e2, ws_nI hu (by decide), nI_1]
  have e3 : (wr1 (wr1 (wr1 s 15 n (nI u0)) 16 n (nI d0)) 14 u0 (nI (f u0 99 + 1))).1 6 11 = nI n := by rw [wr1_ne (by decide), wr1_ne (by decide), wr1_ne (by decide)]; exact h2
  rw [e3, nI_1, wrI_1]
  refine ⟨_, rfl, Fm_t (Fm_t (Fm_t (Fm_w (Or.inr (Or.inr (Or.inl rfl)))) (Fm_w (Or.inr (Or.inr (Or.inr rfl))))) (Fm_w (Or.inr (Or.inl rfl)))) (Fm_w (Or.inl rfl)), fun j hj => ?_, ⟨n + 1, updN bw n u0, updN bm n d0, by omega, ?_, fun i hi' => ?_, fun u d => ?_⟩, fun u hu' => ?_⟩
  · rw [wr1_at, if_neg hj, wr1_ne (by decide), wr1_ne (by decide), wr1_ne (by decide)]
  · rw [wr1_at, if_pos rfl]
  · rw [wr1_ne (by decide), wr1_ne (by decide), wr1_ne (by decide), wr1_at, wr1_ne (by decide), wr1_ne (by decide), wr1_at, wr1_ne (by decide)]
    by_cases e : i = n
    · subst e
      rw [if_pos rfl, if_pos rfl, updN_s, updN_s]
      exact ⟨rfl, rfl, hu, hd⟩
    · rw [if_neg e, if_neg e, updN_n e, updN_n e]
      exact h3 i (by omega)
  · simp only [q_ct, updN_s]
    rw [q_ct_c (bw' := bw) (bm' := bm) n (fun i hi' => ⟨updN_n (by omega), updN_n (by omega)⟩), h4]
    by_cases c : u = u0 ∧ d0 ≤ d
    · rw [if_pos c, if_pos ⟨c.1.symm, c.2⟩]
    · rw [if_neg c, if_neg (fun z => c ⟨z.1.symm, z.2⟩)]
  · rw [wr1_ne (by decide), wr1_at]
    dsimp only
    by_cases e : u = u0
    · rw [if_pos e, if_pos ⟨e, hd⟩, e]
    · rw [if_neg e, if_neg (fun z => e z.1), wr1_ne (by decide), wr1_ne (by decide)]
      exact h5 u hu'
theorem c_bring (hf : FX D hi) {T : Nat → Nat → Nat → Prop} {m a c d0 : Nat} (h : CT s T m) (hm : m < 10) (ha : a < 56) (hc : c < 56) (hd : d0 ≤ 99) : ∃ s', F_Wires_bringTogether N (mkM h0 B D hi z s) (B + 6) (nI a) (nI c) (nI d0) = some (mkM h0 B D hi z (s')) ∧ Fm (fun k => k = 6 ∨ k = 17 ∨ k = 18 ∨ k = 19) s s' ∧ (∀ j, j ≠ 12 → s'.1 6 j = s.1 6 j) ∧ CT s' (fun x y d => T x y d ∨ (x = a ∧ y = c ∧ d = d0)) (m + 1) := by
  obtain ⟨n, ta, tb, tm, h1, h2, h3, h4⟩ := h
  rw [sg_Wires_bringTogether hf]
  unfold G_Wires_bringTogether G_Wires_bringTogether_58
  rw [h2, L_10, if_neg (nI_ge (show n < 10 by omega) (by decide))]
  simp only [vsI_ws]
  rw [ws_nI (show n < 10 by omega) (by decide)]
  have e1 : (wr1 s 17 n (nI a)).1 6 12 = nI n := by rw [wr1_ne (by decide)]; exact h2
  rw [e1, ws_nI (show n < 10 by omega) (by decide)]
  have e2 : (wr1 (wr1 s 17 n (nI a)) 18 n (nI c)).1 6 12 = nI n := by rw [wr1_ne (by decide), wr1_ne (by decide)]; exact h2
  rw [e2, ws_nI (show n < 10 by omega) (by decide)]
  have e3 : (wr1 (wr1 (wr1 s 17 n (nI a)) 18 n (nI c)) 19 n (nI d0)).1 6 12 = nI n := by rw [wr1_ne (by decide), wr1_ne (by decide), wr1_ne (by decide)]; exact h2
  rw [e3, nI_1, wrI_1]
  refine ⟨_, rfl, Fm_t (Fm_t (Fm_t (Fm_w (Or.inr (Or.inl rfl))) (Fm_w (Or.inr (Or.inr (Or.inl rfl))))) (Fm_w (Or.inr (Or.inr (Or.inr rfl))))) (Fm_w (Or.inl rfl)), fun j hj => ?_, n + 1, updN ta n a, updN tb n c, updN tm n d0, by omega, ?_, fun i hi' => ?_, fun x y d => ?_⟩
  · rw [wr1_at, if_neg hj, wr1_ne (by decide), wr1_ne (by decide), wr1_ne (by decide)]
  · rw [wr1_at, if_pos rfl]
  · rw [wr1_ne (by decide), wr1_ne (by decide), wr1_ne (by decide), wr1_at, wr1_ne (by decide), wr1_ne (by decide), wr1_at, wr1_ne (by decide), wr1_ne (by decide), wr1_at, wr1_ne (by decide), wr1_ne (by decide)]
    by_cases e : i = n
    · subst e
      rw [if_pos rfl, if_pos rfl, if_pos rfl, updN_s, updN_s, updN_s]
      exact ⟨rfl, rfl, rfl, ha, hc, hd⟩
    · rw [if_neg e, if_neg e, if_neg e, updN_n e, updN_n e, updN_n e]
      exact h3 i (by omega)
  · constructor
    · intro hh
      rcases hh with hh | ⟨rfl, rfl, rfl⟩
      · obtain ⟨i, i1, i2, i3, i4⟩ := (h4 x y d).mp hh
        exact ⟨i, by omega, by rw [updN_n (by omega)]; exact i2, by rw [updN_n (by omega)]; exact i3, by rw [updN_n (by omega)]; exact i4⟩
      · exact ⟨n, by omega, updN_s, updN_s, updN_s⟩
    · intro ⟨i, i1, i2, i3, i4⟩
      by_cases e : i = n
      · subst e
        rw [updN_s] at i2 i3 i4
        exact Or.inr ⟨i2.symm, i3.symm, i4.symm⟩
      · rw [updN_n e] at i2 i3 i4
        exact Or.inl ((h4 x y d).mpr ⟨i, by omega, i2, i3, i4⟩)
theorem CO_fm {s' : mst} {o i : Nat → Nat} {K : Nat → Prop} (h : CO s o i) (hm : Fm K s s') (hK : ¬ K 12 ∧ ¬ K 13) : CO s' o i := by
  unfold CO at h ⊢
  rw [hm.1 _ hK.1, hm.1 _ hK.2]
  exact h
theorem CB_eq {s' : mst} {f : Nat → Nat → Nat} {m : Nat} (h : CB s f m) (e1 : s'.1 6 11 = s.1 6 11) (e2 : s'.1 14 = s.1 14) (e3 : s'.1 15 = s.1 15) (e4 : s'.1 16 = s.1 16) : CB s' f m := by
  unfold CB at h ⊢
  rw [e1, e2, e3, e4]
  exact h
theorem CT_eq {s' : mst} {T : Nat → Nat → Nat → Prop} {m : Nat} (h : CT s T m) (e1 : s'.1 6 12 = s.1 6 12) (e2 : s'.1 17 = s.1 17) (e3 : s'.1 18 = s.1 18) (e4 : s'.1 19 = s.1 19) : CT s' T m := by
  unfold CT at h ⊢
  rw [e1, e2, e3, e4]
  exact h
theorem CB_m {f g : Nat → Nat → Nat} {m m' : Nat} (h : CB s f m) (hm : m ≤ m') (e : ∀ u d, f u d = g u d) : CB s g m' := by
  obtain ⟨⟨n, bw, bm, h1, h2, h3, h4⟩, h5⟩ := h
  exact ⟨⟨n, bw, bm, by omega, h2, h3, fun u d => by rw [h4, e]⟩, fun u hu => by rw [h5 u hu, e]⟩
theorem CT_m {T T' : Nat → Nat → Nat → Prop} {m m' : Nat} (h : CT s T m) (hm : m ≤ m') (e : ∀ a c d, T' a c d ↔ T a c d) : CT s T' m' := by
  obtain ⟨n, ta, tb, tm, h1, h2, h3, h4⟩ := h
  exact ⟨n, ta, tb, tm, by omega, h2, h3, fun a c d => (e a c d).trans (h4 a c d)⟩
/-- after k of the FAULTS -/
def LK (A : AP) (w k : Nat) (U : Nat) (s : mst) : Prop := CO s (q_ou A w k) (q_iu A w k) ∧ CB s (fun u d => q_cn A w u d k) k ∧ CT s (fun a c d => ∃ k', k' < k ∧ q_is A w k' 2 ∧ q_a A k' = a ∧ q_b A k' = c ∧ q_td A k' = d) k ∧ U < 64 ∧ ∀ i, so U i ↔ ∃ k', k' < k ∧ so w k' ∧ q_tk A k' = 3 ∧ q_tx A k' = i
def KW (k : Nat) : Prop := k = 6 ∨ (12 ≤ k ∧ k ≤ 19)
theorem LK_skip {w k U : Nat} (h : LK A w k U s) (h0 : ¬ so w k ∨ 3 < q_tk A k) : LK A w (k + 1) U s := by
  obtain ⟨a, b, c, d, e⟩ := h
  have hz : ∀ kind, kind ≤ 3 → ¬ q_is A w k kind := fun kind hk z => by
    rcases h0 with h0 | h0
    · exact h0 z.1
    · have := z.2; omega
  refine ⟨fun u hu => ?_, CB_m b (by omega) (fun u d => ?_), CT_m c (by omega) (fun x y d => ?_), d, fun i => ?_⟩
  · simp only [q_ou, q_iu, if_neg (hz 0 (by omega))]
    exact a u hu
  · simp only [q_cn]
    rw [if_neg (fun z => hz 1 (by omega) z.1), Nat.add_zero]
  · constructor
    · intro ⟨k', h1, h2⟩
      by_cases hk : k' = k
      · subst hk; exact absurd h2.1 (hz 2 (by omega))
      · exact ⟨k', by omega, h2⟩
    · intro ⟨k', h1, h2⟩
      exact ⟨k', by omega, h2⟩
  · rw [e i]
    constructor
    · intro ⟨k', h1, h2⟩
      exact ⟨k', by omega, h2⟩
    · intro ⟨k', h1, h2, h3, h4⟩
      by_cases hk : k' = k
      · subst hk; exact absurd ⟨h2, h3⟩ (hz 3 (by omega))
      · exact ⟨k', by omega, h2, h3, h4⟩
theorem q_iu_st (hA : WF A) (w : Nat) {k s : Nat} (hk : k ≤ q_nt A) : (q_st A (q_iu A w k s) ↔ q_st A s) := by
  have := (q_ou_st hA w k (q_iu A w k s) hk).1
  rw [q_oiu] at this
  exact this.symm
theorem c_befall (hf : FX D hi) (hp : PL D hi P) (hA : WF A) (h : CP s P A) {w k U : Nat} (hk : k < q_nt A) (hs : so w k) (hl : LK A w k U s) (hP : P = 58 ∨ 130 ≤ P) : ∃ V s', F_Wires_befall N (mkM h0 B D hi z s) (B + 6) (B + (P + 17)) (nI k) = some (nI V, (mkM h0 B D hi z (s'))) ∧ LK A w (k + 1) (U ||| V) s' ∧ Fm KW s s' ∧ ∀ j, j ≠ 11 → j ≠ 12 → s'.1 6 j = s.1 6 j := by
  have hc := hA.1
  unfold WFc at hc
  obtain ⟨t0, t1, t2, t3, t4⟩ := h.2.2.2.1.2.2 k hk
  have htt := hA.2.2.2.2.1 k hk
  have hcn : s.1 (P + 17) 2 = nI (q_nt A) := h.2.2.2.1.1
  have at_ : ∀ (s' : mst) (q : Nat), q < 5 → s'.1 (P + 17) 2 = nI (q_nt A) → F_Ledger_at N (mkM h0 B D hi z (s')) (B + (P + 17)) (nI k) (nI q) = some (s'.1 (P + 17 + 1) (5 * k + q), (mkM h0 B D hi z (s'))) := fun s' q hq hs' => c_at (pl_L17 hp) hs' (by omega) hk hq
  obtain ⟨la, lb, lc, ld, le⟩ := hl
  unfold F_Wires_befall F_BP_siteOf
  simp only [rcm_6 hf, L_0, L_1, L_2, L_3, L_4, at_ s 0 (by omega) hcn, at_ s 1 (by omega) hcn, at_ s 2 (by omega) hcn, at_ s 3 (by omega) hcn, at_ s 4 (by omega) hcn, Option.bind_some, Option.map_some, Option.bind_none, if_true, if_false]
  rw [t0, t1]
  have hUor : ∀ s', U ||| 0 = U ∧ (s' : mst) = s' := fun s' => ⟨Nat.or_zero U, rfl⟩
  have hmask : q_tk A k ≠ 3 → ∀ i, so U i ↔ ∃ k', k' < k + 1 ∧ so w k' ∧ q_tk A k' = 3 ∧ q_tx A k' = i := by
    intro h3 i
    rw [le i]
    constructor
    · intro ⟨k', h1, h2⟩
      exact ⟨k', by omega, h2⟩
    · intro ⟨k', h1, h2, h4, h5⟩
      by_cases hk2 : k' = k
      · subst hk2; exact absurd h4 h3
      · exact ⟨k', by omega, h2, h4, h5⟩
  have hcs : q_tk A k = 0 ∨ q_tk A k = 1 ∨ q_tk A k = 2 ∨ q_tk A k = 3 := by omega
  rcases hcs with hk0 | hk0 | hk0 | hk0
  · obtain ⟨a1, a2, a3, a4, a5, a6, a7⟩ := q_abst hA hk (Or.inl hk0)
    have al := q_st_lt hA a1
    have bl := q_st_lt hA a2
    have ail := q_st_lt hA ((q_iu_st hA w (k := k) (by omega)).mpr a1)
    have bil := q_st_lt hA ((q_iu_st hA w (k := k) (by omega)).mpr a2)
    obtain ⟨s', e, f1, f2⟩ := c_cross (N := N) (h0 := h0) (B := B) (z := z) hf la (q_iou A w k) (q_oiu A w k) al.1 bl.1 ail.1 bil.1 a7
    refine ⟨0, s', ?_, ⟨?_, ?_, ?_, by rw [Nat.or_zero]; exact ld, by rw [Nat.or_zero]; exact hmask (by omega)⟩, Fm_m f1 (fun q hq => by unfold KW; omega), fun j _ _ => by rw [f1.1 6 (by dsimp only; omega)]⟩
    · rw [hk0]
      refine (if_pos rfl).trans ?_
      rw [t2 (by omega), t3 (Or.inl hk0), L_8, nI_mul, nI_add, nI_add]
      have e' := e
      unfold q_a q_b at e'
      rw [e']
      rfl
    · intro u hu
      simp only [q_ou, q_iu, if_pos (show q_is A w k 0 from ⟨hs, hk0⟩)]
      exact f2 u hu
    · refine CB_m (CB_eq lb (by rw [f1.1 6 (by dsimp only; omega)]) (f1.1 14 (by dsimp only; omega)) (f1.1 15 (by dsimp only; omega)) (f1.1 16 (by dsimp only; omega))) (by omega) (fun u d => ?_)
      simp only [q_cn]
      rw [if_neg (fun z => by have := z.1.2; omega), Nat.add_zero]
    · refine CT_m (CT_eq lc (by rw [f1.1 6 (by dsimp only; omega)]) (f1.1 17 (by dsimp only; omega)) (f1.1 18 (by dsimp only; omega)) (f1.1 19 (by dsimp only; omega))) (by omega) (fun x y d => ?_)
      constructor
      · intro ⟨k', g1, g2⟩
        by_cases hk2 : k' = k
        · subst hk2; have := g2.1.2; omega
        · exact ⟨k', by omega, g2⟩
      · intro ⟨k', g1, g2⟩
        exact ⟨k', by omega, g2⟩
  · obtain ⟨a1, a2, a3⟩ := q_ast hA hk (by omega)
    have al := q_st_lt hA a1
    have hd := htt.2.2.2.2 (Or.inl hk0)
    have hx := hA.2.1 (q_tx A k) (by have := a1.1; omega)
    obtain ⟨s', e, f1, f2, f3⟩ := c_cut (N := N) (h0 := h0) (B := B) (z := z) hf lb (show k < 10 by omega) al.1 (show q_td A k ≤ 99 by omega)
    refine ⟨0, s', ?_, ⟨?_, ?_, ?_, by rw [Nat.or_zero]; exact ld, by rw [Nat.or_zero]; exact hmask (by omega)⟩, Fm_m f1 (fun q hq => by unfold KW; omega), fun j h1 _ => f2 j h1⟩
    · rw [hk0]
      refine (if_neg (by decide)).trans ((if_pos rfl).trans ?_)
      rw [t2 (by omega), t4 (Or.inl hk0), L_8, nI_mul, nI_add]
      have e' := e
      unfold q_a at e'
      rw [e']
      rfl
    · intro u hu
      simp only [q_ou, q_iu, if_neg (show ¬ q_is A w k 0 from fun z => by have := z.2; omega)]
      exact CO_fm la f1 ⟨by omega, by omega⟩ u hu
    · refine CB_m f3 (by omega) (fun u d => ?_)
      simp only [q_cn]
      congr 1
      by_cases c1 : u = q_a A k ∧ q_td A k ≤ d
      · rw [if_pos c1, if_pos ⟨⟨hs, hk0⟩, c1.1.symm, c1.2⟩]
      · rw [if_neg c1, if_neg (fun z => c1 ⟨z.2.1.symm, z.2.2⟩)]
    · refine CT_m (CT_eq lc (f2 12 (by decide)) (f1.1 17 (by dsimp only; omega)) (f1.1 18 (by dsimp only; omega)) (f1.1 19 (by dsimp only; omega))) (by omega) (fun x y d => ?_)
      constructor
      · intro ⟨k', g1, g2⟩
        by_cases hk2 : k' = k
        · subst hk2; have := g2.1.2; omega
        · exact ⟨k', by omega, g2⟩
      · intro ⟨k', g1, g2⟩
        exact ⟨k', by omega, g2⟩
  · obtain ⟨a1, a2, a3, a4, a5, a6, a7⟩ := q_abst hA hk (Or.inr hk0)
    have al := q_st_lt hA a1
    have bl := q_st_lt hA a2
    have hd := htt.2.2.2.2 (Or.inr hk0)
    have hx := hA.2.1 (q_tx A k) (by have := a1.1; omega)
    obtain ⟨s', e, f1, f2, f3⟩ := c_bring (N := N) (h0 := h0) (B := B) (z := z) hf lc (show k < 10 by omega) al.1 bl.1 (show q_td A k ≤ 99 by omega)
    refine ⟨0, s', ?_, ⟨?_, ?_, ?_, by rw [Nat.or_zero]; exact ld, by rw [Nat.or_zero]; exact hmask (by omega)⟩, Fm_m f1 (fun q hq => by unfold KW; omega), fun j _ h1 => f2 j h1⟩
    · rw [hk0]
      refine (if_neg (by decide)).trans ((if_neg (by decide)).trans ((if_pos rfl).trans ?_))
      rw [t2 (by omega), t3 (Or.inr hk0), t4 (Or.inr hk0), L_8, nI_mul, nI_add, nI_add]
      have e' := e
      unfold q_a q_b at e'
      rw [e']
      rfl
    · intro u hu
      simp only [q_ou, q_iu, if_neg (show ¬ q_is A w k 0 from fun z => by have := z.2; omega)]
      exact CO_fm la f1 ⟨by omega, by omega⟩ u hu
    · refine CB_m (CB_eq lb (f2 11 (by decide)) (f1.1 14 (by dsimp only; omega)) (f1.1 15 (by dsimp only; omega)) (f1.1 16 (by dsimp only; omega))) (by omega) (fun u d => ?_)
      simp only [q_cn]
      rw [if_neg (fun z => by have := z.1.2; omega), Nat.add_zero]
    · refine CT_m f3 (by omega) (fun x y d => ?_)
      constructor
      · intro ⟨k', g1, g2, g3, g4, g5⟩
        by_cases hk2 : k' = k
        · subst hk2; exact Or.inr ⟨g3.symm, g4.symm, g5.symm⟩
        · exact Or.inl ⟨k', by omega, g2, g3, g4, g5⟩
      · intro g
        rcases g with ⟨k', g1, g2⟩ | ⟨g1, g2, g3⟩
        · exact ⟨k', by omega, g2⟩
        · exact ⟨k, by omega, ⟨hs, hk0⟩, g1.symm, g2.symm, g3.symm⟩
  · have hx := htt.2.1 hk0
    refine ⟨2 ^ q_tx A k, s, ?_, ⟨?_, ?_, ?_, ?_, fun i => ?_⟩, Fm_r, fun j _ _ => rfl⟩
    · rw [hk0]
      refine (if_neg (by decide)).trans ((if_neg (by decide)).trans ((if_neg (by decide)).trans ?_))
      rw [← L_1, sh1 (by omega)]
    · intro u hu
      simp only [q_ou, q_iu, if_neg (show ¬ q_is A w k 0 from fun z => by have := z.2; omega)]
      exact la u hu
    · refine CB_m lb (by omega) (fun u d => ?_)
      simp only [q_cn]
      rw [if_neg (fun z => by have := z.1.2; omega), Nat.add_zero]
    · refine CT_m lc (by omega) (fun x y d => ?_)
      constructor
      · intro ⟨k', g1, g2⟩
        by_cases hk2 : k' = k
        · subst hk2; have := g2.1.2; omega
        · exact ⟨k', by omega, g2⟩
      · intro ⟨k', g1, g2⟩
        exact ⟨k', by omega, g2⟩
    · exact lt_or2 (m := 6) ld (by omega)
    · rw [so_tb, tb_or2, ← so_tb, le i]
      constructor
      · intro g
        rcases g with ⟨k', g1, g2⟩ | g
        · exact ⟨k', by omega, g2⟩
        · exact ⟨k, by omega, hs, hk0, g.symm⟩
      · intro ⟨k', g1, g2, g3, g4⟩
        by_cases hk2 : k' = k
        · subst hk2; exact Or.inr g4.symm
        · exact Or.inl ⟨k', by omega, g2, g3, g4⟩
end LAYC
