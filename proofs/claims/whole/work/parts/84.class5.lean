/-! ===== the class's TONE: what holds while it goes ===== -/
def nS (x : Int32) : Nat := x.toNatClampNeg
theorem nS_nI {n : Nat} (h : n < 2 ^ 31) : nS (nI n) = n := nI_clamp h
/-- the tone has come to piece v -/
def tR (s : mst) (v : Nat) : Prop := (nS (s.1 48 (v / 16))).testBit (v % 16) = true
def tM (s : mst) : Nat := nS (s.1 47 4)
def tW (s : mst) (i : Nat) : Nat := nS (s.1 49 i)
def TS (s : mst) : Prop := (∀ u, u < 56 → s.1 48 u = nI (nS (s.1 48 u)) ∧ nS (s.1 48 u) < 2 ^ 11) ∧ (s.1 47 4 = nI (tM s) ∧ tM s ≤ 616) ∧ (∀ i, i < tM s → s.1 49 i = nI (tW s i) ∧ tW s i < 896) ∧ ∀ x, x < 7 → (s.1 50 x = nI (nS (s.1 50 x)) ∧ nS (s.1 50 x) < 2 ^ 6) ∧ (s.1 51 x = nI (nS (s.1 51 x)) ∧ nS (s.1 51 x) < 2 ^ 6)
noncomputable def tU (s : mst) : Nat → Nat
  | 0 => 0
  | n + 1 => tU s n + @ite _ (tR s (16 * (n / 11) + n % 11)) (Classical.propDecidable _) 0 1
theorem tU_le {s : mst} : ∀ n, tU s n ≤ n := by
  intro n
  induction n with
  | zero => exact Nat.le_refl 0
  | succ n ih =>
    unfold tU
    by_cases h : tR s (16 * (n / 11) + n % 11)
    · rw [if_pos h]; omega
    · rw [if_neg h]; omega
theorem tU_eq {s s' : mst} : ∀ n, (∀ q, q < n → (tR s' (16 * (q / 11) + q % 11) ↔ tR s (16 * (q / 11) + q % 11))) → tU s' n = tU s n := by
  intro n
  induction n with
  | zero => intro _; rfl
  | succ n ih =>
    intro h
    unfold tU
    rw [ih (fun q hq => h q (by omega))]
    have := h n (by omega)
    by_cases c : tR s (16 * (n / 11) + n % 11)
    · rw [if_pos c, if_pos (this.mpr c)]
    · rw [if_neg c, if_neg (fun z => c (this.mp z))]
theorem tU_up {s s' : mst} {k : Nat} (hk : ¬ tR s (16 * (k / 11) + k % 11)) (hk' : tR s' (16 * (k / 11) + k % 11)) (h : ∀ q, q ≠ k → (tR s' (16 * (q / 11) + q % 11) ↔ tR s (16 * (q / 11) + q % 11))) : ∀ n, k < n → tU s' n + 1 = tU s n := by
  intro n
  induction n with
  | zero => intro hh; omega
  | succ n ih =>
    intro hh
    unfold tU
    by_cases e : k = n
    · subst e
      rw [if_neg hk, if_pos hk', tU_eq k (fun q hq => h q (by omega))]
    · have := h n (by omega)
      have h2 := ih (by omega)
      by_cases c : tR s (16 * (n / 11) + n % 11)
      · rw [if_pos c, if_pos (this.mpr c)]; omega
      · rw [if_neg c, if_neg (fun z => c (this.mp z))]; omega
theorem tU_pos {s : mst} {k : Nat} (hk : ¬ tR s (16 * (k / 11) + k % 11)) : ∀ n, k < n → 1 ≤ tU s n := by
  intro n
  induction n with
  | zero => intro hh; omega
  | succ n ih =>
    intro hh
    unfold tU
    by_cases e : k = n
    · subst e
      rw [if_neg hk]; omega
    · have := ih (by omega)
      omega
/-- all that goes out of piece v was seen to -/
def tD (A : AP) (w : Nat) (b : Nat × Nat) (wet : Nat) (s : mst) (v : Nat) : Prop := (∀ c, q_E A w b wet v c ∨ q_E A w b wet c v → tR s c) ∧ (v % 16 = 0 → (nS (s.1 50 (v / 16 / 8))).testBit (v / 16 % 8) = true) ∧ (v % 16 = q_nk A w b (v / 16) (q_ln A (v / 16 / 8)) → (nS (s.1 51 (v / 16 / 8))).testBit (q_out A w (v / 16) % 8) = true)
/-- what holds while the tone goes; Ex: pieces that are being seen to -/
def TJ (A : AP) (w : Nat) (b : Nat × Nat) (wet v0 : Nat) (Ex : Nat → Prop) (k : Nat) (s : mst) : Prop := TS s ∧ True ∧ (∀ v, v < 896 → tR s v → nok A v ∧ q_R A w b wet v0 v) ∧ (∀ i, i < tM s → tR s (tW s i)) ∧ (∀ v, v < 896 → tR s v → (∃ i, i < tM s ∧ tW s i = v) ∨ tD A w b wet s v ∨ Ex v) ∧ (∀ x, x < 7 → ∀ p, ((nS (s.1 50 x)).testBit p = true → p < 8 ∧ q_st A (8 * x + p) ∧ q_R A w b wet v0 (q_nd A w b (8 * x + p) 0)) ∧ ((nS (s.1 51 x)).testBit p = true → p < 8 ∧ q_st A (8 * x + p) ∧ q_R A w b wet v0 (q_nd A w b (8 * x + p) 1))) ∧ k + tM s + tU s 616 = 616
theorem nok_lt {A : AP} (hA : WF A) {v : Nat} (h : nok A v) : v < 896 ∧ v / 16 < 56 ∧ v % 16 ≤ 10 := by
  have := q_st_lt hA h.1
  have := h.2
  omega
section TNE
variable {h0 : Nat → pm_C} {B : Nat} {D : Nat → pd} {hi z : Nat} {s : mst} {N P : Nat} {A : AP} {w wet v0 k : Nat} {b : Nat × Nat} {Ex : Nat → Prop}
theorem c_come0 (hf : FX D hi) {p : Int32} : F_Tone_come N (mkM h0 B D hi z s) (B + 47) (-1) p = some (mkM h0 B D hi z s) := by
  rw [sg_Tone_come hf]
  unfold G_Tone_come G_Tone_come_78
  rw [if_pos m1_lt]
  rfl
/-- what a step of the tone keeps -/
def tK (s s' : mst) : Prop := (∀ v, tR s v → tR s' v) ∧ s'.1 50 = s.1 50 ∧ s'.1 51 = s.1 51 ∧ Fm (fun q => q = 47 ∨ q = 48 ∨ q = 49) s s'
theorem tK_r : tK s s := ⟨fun _ h => h, rfl, rfl, Fm_r⟩
theorem tK_t {s' s'' : mst} (h : tK s s') (h' : tK s' s'') : tK s s'' := ⟨fun v hv => h'.1 v (h.1 v hv), h'.2.1.trans h.2.1, h'.2.2.1.trans h.2.2.1, Fm_t h.2.2.2 h'.2.2.2⟩
theorem tD_k {s' : mst} (h : tK s s') {v : Nat} (hd : tD A w b wet s v) : tD A w b wet s' v := by
  refine ⟨fun c hc => h.1 c (hd.1 c hc), ?_, ?_⟩
  · rw [h.2.1]; exact hd.2.1
  · rw [h.2.2.1]; exact hd.2.2
theorem c_come (hf : FX D hi) (hA : WF A) (hJ : TJ A w b wet v0 Ex k s) {c : Nat} (hc : nok A c) (hq : q_R A w b wet v0 c) : ∃ s', F_Tone_come N (mkM h0 B D hi z s) (B + 47) (nI (c / 16)) (nI (c % 16)) = some (mkM h0 B D hi z (s')) ∧ TJ A w b wet v0 Ex k s' ∧ tR s' c ∧ tK s s' := by
  obtain ⟨j1, j2, j3, j4, j5, j6, j7⟩ := id hJ
  obtain ⟨t1, t2, t3, t4⟩ := j1
  obtain ⟨c1, c2, c3⟩ := nok_lt hA hc
  obtain ⟨a1, a2⟩ := t1 (c / 16) c2
  rw [sg_Tone_come hf]
  unfold G_Tone_come G_Tone_come_78
  rw [if_neg (nI_pos (by omega)), L_56, if_neg (nI_ge c2 (by decide)), vat_nI c2 (by decide)]
  have hbit : ((s.1 48 (c / 16)) >>> (nI (c % 16) &&& 31)) &&& 1 = nI (nS (s.1 48 (c / 16)) / 2 ^ (c % 16) % 2) := by
    rw [a1, nS_nI (by omega), L_31, nI_shr (by omega) (by omega), L_1, nI_and1]
  rw [hbit]
  by_cases hr : tR s c
  · have : nS (s.1 48 (c / 16)) / 2 ^ (c % 16) % 2 = 1 := so_tb.mpr hr
    rw [this, if_neg (by decide)]
    exact ⟨s, rfl, hJ, hr, tK_r⟩
  · have hz : nS (s.1 48 (c / 16)) / 2 ^ (c % 16) % 2 = 0 := (bit01 _ _).resolve_right (fun e => hr (so_tb.mp e))
    rw [hz, if_pos (by decide)]
    have hk1 : (c / 16 * 11 + c % 16) / 11 = c / 16 := by omega
    have hk2 : (c / 16 * 11 + c % 16) % 11 = c % 16 := by omega
    have hkc : 16 * ((c / 16 * 11 + c % 16) / 11) + (c / 16 * 11 + c % 16) % 11 = c := by omega
    have hpos := tU_pos (s := s) (k := c / 16 * 11 + c % 16) (by rw [hkc]; exact hr) 616 (by omega)
    have hm : tM s < 616 := by omega
    rw [t2.1, L_616, if_neg (nI_ge hm (by decide))]
    simp only [vsI_ws]
    have hv1 : (s.1 48 (c / 16)) ||| (1 <<< (nI (c % 16) &&& 31)) = nI (nS (s.1 48 (c / 16)) ||| 2 ^ (c % 16)) := by
      rw [sh1 c3, a1, nS_nI (by omega), nI_or]
    rw [hv1, ws_nI c2 (by decide)]
    have e1 : (wr1 s 48 (c / 16) (nI (nS (s.1 48 (c / 16)) ||| 2 ^ (c % 16)))).1 47 4 = nI (tM s) := by rw [wr1_ne (by decide)]; exact t2.1
    rw [e1, ws_nI hm (by decide)]
    have hv2 : (nI (c / 16) <<< ((4 : Int32) &&& 31)) ||| nI (c % 16) = nI c := by
      rw [L_4, L_31, nI_shl (by omega) (by omega), nI_or]
      congr 1
      rw [show c / 16 * 2 ^ 4 = 2 ^ 4 * (c / 16) by omega, Nat.mul_comm, Nat.mul_comm, ← Nat.two_pow_add_eq_or_of_lt (i := 4) (show c % 16 < 2 ^ 4 by omega)]
      omega
    rw [hv2]
    have e2 : (wr1 (wr1 s 48 (c / 16) (nI (nS (s.1 48 (c / 16)) ||| 2 ^ (c % 16)))) 49 (tM s) (nI c)).1 47 4 = nI (tM s) := by rw [wr1_ne (by decide), wr1_ne (by decide)]; exact t2.1
    rw [e2, nI_1, wrI_1]
    have hlt : nS (s.1 48 (c / 16)) ||| 2 ^ (c % 16) < 2 ^ 11 := lt_or2 a2 (by omega)
    generalize hs' : wr1 (wr1 (wr1 s 48 (c / 16) (nI (nS (s.1 48 (c / 16)) ||| 2 ^ (c % 16)))) 49 (tM s) (nI c)) 47 4 (nI (tM s + 1)) = s'
    have r48 : ∀ u, s'.1 48 u = if u = c / 16 then nI (nS (s.1 48 (c / 16)) ||| 2 ^ (c % 16)) else s.1 48 u := by
      intro u
      rw [← hs', wr1_ne (by decide), wr1_ne (by decide), wr1_at]
    have r49 : ∀ i, s'.1 49 i = if i = tM s then nI c else s.1 49 i := by
      intro i
      rw [← hs', wr1_ne (by decide), wr1_at, wr1_ne (by decide)]
    have r47 : s'.1 47 4 = nI (tM s + 1) := by rw [← hs', wr1_at, if_pos rfl]
    have r50 : s'.1 50 = s.1 50 := by rw [← hs', wr1_ne (by decide), wr1_ne (by decide), wr1_ne (by decide)]
    have r51 : s'.1 51 = s.1 51 := by rw [← hs', wr1_ne (by decide), wr1_ne (by decide), wr1_ne (by decide)]
    have hm' : tM s' = tM s + 1 := by unfold tM; rw [r47]; exact nS_nI (by unfold tM at hm; omega)
    have hW : ∀ i, i < tM s → tW s' i = tW s i := by
      intro i hi'
      unfold tW
      rw [r49 i, if_neg (by omega)]
    have hWc : tW s' (tM s) = c := by
      unfold tW
      rw [r49, if_pos rfl]
      exact nS_nI (by omega)
    have hR : ∀ v, tR s' v ↔ tR s v ∨ v = c := by
      intro v
      unfold tR
      rw [r48]
      by_cases hv : v / 16 = c / 16
      · rw [if_pos hv, nS_nI (by omega), tb_or2, hv]
        constructor
        · intro h
          rcases h with h | h
          · exact Or.inl h
          · exact Or.inr (by omega)
        · intro h
          rcases h with h | h
          · exact Or.inl h
          · exact Or.inr (by omega)
      · rw [if_neg hv]
        constructor
        · exact Or.inl
        · intro h
          rcases h with h | h
          · exact h
          · exact absurd (by rw [h]) hv
    have hK : tK s s' := ⟨fun v hv => (hR v).mpr (Or.inl hv), r50, r51, by
      rw [← hs']
      exact Fm_t (Fm_t (Fm_w (Or.inr (Or.inl rfl))) (Fm_w (Or.inr (Or.inr rfl)))) (Fm_w (Or.inl rfl))⟩
    refine ⟨s', rfl, ⟨⟨fun u hu => ?_, ⟨?_, ?_⟩, fun i hi' => ?_, ?_⟩, trivial, fun v hv1 hv2 => ?_, fun i hi' => ?_, fun v hv1 hv2 => ?_, ?_, ?_⟩, (hR c).mpr (Or.inr rfl), hK⟩
    · rw [r48 u]
      by_cases hu2 : u = c / 16
      · rw [if_pos hu2, nS_nI (by omega)]
        exact ⟨rfl, hlt⟩
      · rw [if_neg hu2]
        exact t1 u hu
    · rw [hm']; exact r47
    · omega
    · rw [hm'] at hi'
      by_cases hi2 : i = tM s
      · rw [hi2, hWc, r49, if_pos rfl]
        exact ⟨rfl, c1⟩
      · rw [hW i (by omega), r49, if_neg hi2]
        exact t3 i (by omega)
    · rw [r50, r51]; exact t4
    · rcases (hR v).mp hv2 with h | h
      · exact j3 v hv1 h
      · rw [h]; exact ⟨hc, hq⟩
    · rw [hm'] at hi'
      by_cases hi2 : i = tM s
      · rw [hi2, hWc]; exact (hR c).mpr (Or.inr rfl)
      · rw [hW i (by omega)]; exact (hR _).mpr (Or.inl (j4 i (by omega)))
    · rcases (hR v).mp hv2 with h | h
      · rcases j5 v hv1 h with ⟨i, h1, h2⟩ | h1 | h1
        · exact Or.inl ⟨i, by omega, by rw [hW i h1]; exact h2⟩
        · exact Or.inr (Or.inl (tD_k hK h1))
        · exact Or.inr (Or.inr h1)
      · exact Or.inl ⟨tM s, by omega, by rw [hWc, h]⟩
    · rw [r50, r51]; exact j6
    · have := tU_up (s := s) (s' := s') (k := c / 16 * 11 + c % 16) (by rw [hkc]; exact hr) (by rw [hkc]; exact (hR c).mpr (Or.inr rfl)) (fun q hq2 => by
        rw [hR]
        constructor
        · intro h
          rcases h with h | h
          · exact h
          · exfalso; omega
        · exact Or.inl) 616 (by omega)
      omega
/-- a bit more of what is heard -/
theorem c_mark (hJ : TJ A w b wet v0 Ex k s) {x p e : Nat} (he : e < 2) (hx : x < 7) (hp : p < 6) (hst : q_st A (8 * x + p)) (hq : q_R A w b wet v0 (q_nd A w b (8 * x + p) e)) : ∃ s', s' = wr1 s (50 + e) x (nI (nS (s.1 (50 + e) x) ||| 2 ^ p)) ∧ TJ A w b wet v0 Ex k s' ∧ (nS (s'.1 (50 + e) x)).testBit p = true ∧ (∀ v, tR s' v ↔ tR s v) ∧ Fm (fun q => q = 50 + e) s s' ∧ (∀ q y j, (nS (s.1 q y)).testBit j = true → (nS (s'.1 q y)).testBit j = true) := by
  obtain ⟨j1, j2, j3, j4, j5, j6, j7⟩ := id hJ
  obtain ⟨t1, t2, t3, t4⟩ := j1
  have hb : nS (s.1 (50 + e) x) < 2 ^ 6 := by
    have : e = 0 ∨ e = 1 := by omega
    rcases this with rfl | rfl
    · exact (t4 x hx).1.2
    · exact (t4 x hx).2.2
  have hb2 : nS (s.1 (50 + e) x) ||| 2 ^ p < 2 ^ 6 := lt_or2 hb hp
  generalize hs' : wr1 s (50 + e) x (nI (nS (s.1 (50 + e) x) ||| 2 ^ p)) = s'
  have hne : ∀ q, q ≠ 50 + e → s'.1 q = s.1 q := fun q hq => by rw [← hs', wr1_ne hq]
  have hat : ∀ y, s'.1 (50 + e) y = if y = x then nI (nS (s.1 (50 + e) x) ||| 2 ^ p) else s.1 (50 + e) y := fun y => by rw [← hs', wr1_at]
  have hmono : ∀ q y j, (nS (s.1 q y)).testBit j = true → (nS (s'.1 q y)).testBit j = true := by
    intro q y j hj
    by_cases hq2 : q = 50 + e
    · rw [hq2] at hj ⊢
      rw [hat y]
      by_cases hy : y = x
      · rw [if_pos hy, nS_nI (by omega), tb_or2]
        rw [hy] at hj
        exact Or.inl hj
      · rw [if_neg hy]; exact hj
    · rw [hne q hq2]; exact hj
  have hbits : ∀ y j, (nS (s'.1 (50 + e) y)).testBit j = true → (nS (s.1 (50 + e) y)).testBit j = true ∨ (y = x ∧ j = p) := by
    intro y j hj
    rw [hat y] at hj
    by_cases hy : y = x
    · rw [if_pos hy, nS_nI (by omega), tb_or2] at hj
      rcases hj with hj | hj
      · rw [hy]; exact Or.inl hj
      · exact Or.inr ⟨hy, hj⟩
    · rw [if_neg hy] at hj
      exact Or.inl hj
  have h47 : s'.1 47 = s.1 47 := hne 47 (by omega)
  have h48 : s'.1 48 = s.1 48 := hne 48 (by omega)
  have h49 : s'.1 49 = s.1 49 := hne 49 (by omega)
  have hR : ∀ v, tR s' v ↔ tR s v := fun v => by unfold tR; rw [h48]
  have hM : tM s' = tM s := by unfold tM; rw [h47]
  have hW : ∀ i, tW s' i = tW s i := fun i => by unfold tW; rw [h49]
  refine ⟨s', rfl, ⟨⟨?_, ?_, ?_, fun y hy => ?_⟩, trivial, fun v hv1 hv2 => j3 v hv1 ((hR v).mp hv2), fun i hi' => ?_, fun v hv1 hv2 => ?_, fun y hy j => ?_, ?_⟩, ?_, hR, ?_, hmono⟩
  · rw [h48]; exact t1
  · rw [h47, hM]; exact t2
  · rw [h49, hM]
    intro i hi'
    rw [hW]
    exact t3 i hi'
  · have hgen : ∀ q, q = 50 ∨ q = 51 → s'.1 q y = nI (nS (s'.1 q y)) ∧ nS (s'.1 q y) < 2 ^ 6 := by
      intro q hq2
      by_cases hqe : q = 50 + e
      · rw [hqe, hat y]
        by_cases hyx : y = x
        · rw [if_pos hyx, nS_nI (by omega)]
          exact ⟨rfl, hb2⟩
        · rw [if_neg hyx]
          rcases hq2 with h | h
          · rw [show 50 + e = 50 by omega]; exact (t4 y hy).1
          · rw [show 50 + e = 51 by omega]; exact (t4 y hy).2
      · rw [hne q hqe]
        rcases hq2 with rfl | rfl
        · exact (t4 y hy).1
        · exact (t4 y hy).2
    exact ⟨hgen 50 (Or.inl rfl), hgen 51 (Or.inr rfl)⟩
  · rw [hW, hR]
    rw [hM] at hi'
    exact j4 i hi'
  · rcases j5 v hv1 ((hR v).mp hv2) with ⟨i, h1, h2⟩ | h1 | h1
    · exact Or.inl ⟨i, by rw [hM]; exact h1, by rw [hW]; exact h2⟩
    · exact Or.inr (Or.inl ⟨fun c hc => (hR c).mpr (h1.1 c hc), fun h => hmono _ _ _ (h1.2.1 h), fun h => hmono _ _ _ (h1.2.2 h)⟩)
    · exact Or.inr (Or.inr h1)
  · have : e = 0 ∨ e = 1 := by omega
    rcases this with rfl | rfl
    · refine ⟨fun h => ?_, fun h => ?_⟩
      · rcases hbits y j h with h2 | ⟨h2, h3⟩
        · exact (j6 y hy j).1 h2
        · rw [h2, h3]; exact ⟨by omega, hst, hq⟩
      · rw [hne 51 (by omega)] at h
        exact (j6 y hy j).2 h
    · refine ⟨fun h => ?_, fun h => ?_⟩
      · rw [hne 50 (by omega)] at h
        exact (j6 y hy j).1 h
      · rcases hbits y j h with h2 | ⟨h2, h3⟩
        · exact (j6 y hy j).2 h2
        · rw [h2, h3]; exact ⟨by omega, hst, hq⟩
  · rw [hM, tU_eq 616 (fun q _ => hR _)]
    exact j7
  · rw [hat x, if_pos rfl, nS_nI (by omega), tb_or2]
    exact Or.inr rfl
  · rw [← hs']
    exact Fm_w rfl
end TNE
