/-! ===== a PLAN as numbers, and a WORLD of it ===== -/
/-- field, place, number: 0 counts; 1 .. 4 cables; 5 .. 7 joints and houses as told (text, then slips); 8 .. 12 troubles; 13 .. 17 tests; 18 .. 20 readings; 21 wants -/
abbrev AP : Type := Nat → Nat → Nat
def q_nb (A : AP) : Nat := A 0 0
def q_nc (A : AP) : Nat := A 0 1
def q_nq (A : AP) : Nat := A 0 2
def q_ns (A : AP) : Nat := A 0 3
def q_nt (A : AP) : Nat := A 0 4
def q_ne (A : AP) : Nat := A 0 5
def q_nr (A : AP) : Nat := A 0 6
def q_fr (A : AP) (x : Nat) : Nat := A 1 x
def q_tb (A : AP) (x : Nat) : Nat := A 2 x
def q_pr (A : AP) (x : Nat) : Nat := A 3 x
def q_ln (A : AP) (x : Nat) : Nat := A 4 x
def q_ok (A : AP) (k : Nat) : Nat := A 5 k
def q_os (A : AP) (k : Nat) : Nat := A 6 k
def q_ow (A : AP) (k : Nat) : Nat := A 7 k
def q_tk (A : AP) (k : Nat) : Nat := A 8 k
def q_tx (A : AP) (k : Nat) : Nat := A 9 k
def q_tp (A : AP) (k : Nat) : Nat := A 10 k
def q_tq (A : AP) (k : Nat) : Nat := A 11 k
def q_td (A : AP) (k : Nat) : Nat := A 12 k
def q_ek (A : AP) (k : Nat) : Nat := A 13 k
def q_es (A : AP) (k : Nat) : Nat := A 14 k
def q_ee (A : AP) (k : Nat) : Nat := A 15 k
def q_ey (A : AP) (k : Nat) : Nat := A 16 k
def q_ei (A : AP) (k : Nat) : Nat := A 17 k
def q_rt (A : AP) (k : Nat) : Nat := A 18 k
def q_rw (A : AP) (k : Nat) : Nat := A 19 k
def q_rv (A : AP) (k : Nat) : Nat := A 20 k
def q_wt (A : AP) (k : Nat) : Nat := A 21 k
/-- a PAIR of a CABLE: 8 times the CABLE and the PAIR -/
def q_st (A : AP) (s : Nat) : Prop := s / 8 < q_nc A ∧ s % 8 < q_pr A (s / 8)
def WFc (A : AP) : Prop := 2 ≤ q_nb A ∧ q_nb A ≤ 8 ∧ q_nc A ≤ 7 ∧ q_nq A ≤ 50 ∧ q_ns A ≤ 6 ∧ q_nt A ≤ 10 ∧ q_ne A ≤ 12 ∧ q_nr A ≤ 24
def WFx (A : AP) : Prop := ∀ x, x < q_nc A → q_fr A x < q_tb A x ∧ q_tb A x < q_nb A ∧ 1 ≤ q_pr A x ∧ q_pr A x ≤ 6 ∧ 1 ≤ q_ln A x ∧ q_ln A x ≤ 99
def WFd (A : AP) : Prop := ∀ x y, x < q_nc A → y < q_nc A → q_tb A x = q_tb A y → x = y
def WFo (A : AP) : Prop := ∀ k, k < q_nq A + q_ns A → q_ok A k ≤ 1 ∧ q_st A (q_os A k) ∧ (q_ok A k = 0 → q_st A (q_ow A k) ∧ q_fr A (q_ow A k / 8) = q_tb A (q_os A k / 8)) ∧ (q_ok A k = 1 → q_ow A k < 10)
def WFt (A : AP) : Prop := ∀ k, k < q_nt A → q_tk A k ≤ 3 ∧ (q_tk A k = 3 → q_tx A k < q_ns A) ∧ (q_tk A k < 3 → q_tx A k < q_nc A ∧ q_tp A k < q_pr A (q_tx A k)) ∧ (q_tk A k = 0 ∨ q_tk A k = 2 → q_tq A k < q_pr A (q_tx A k) ∧ q_tq A k ≠ q_tp A k) ∧ (q_tk A k = 1 ∨ q_tk A k = 2 → q_td A k ≤ q_ln A (q_tx A k))
def WFe (A : AP) : Prop := ∀ k, k < q_ne A → q_ek A k ≤ 1 ∧ q_st A (q_es A k) ∧ q_ee A k ≤ 1 ∧ q_ey A k < q_nc A ∧ q_ei A k ≤ 1 ∧ (q_ek A k = 1 → q_ey A k = q_es A k / 8 ∧ q_ei A k = q_ee A k)
def WFr (A : AP) : Prop := ∀ k, k < q_nr A → q_rt A k < q_ne A ∧ q_rw A k ≤ 1 ∧ q_rv A k < 2 ^ 31
def WFw (A : AP) : Prop := ∀ h, h < 10 → q_wt A h ≤ 6
def WF (A : AP) : Prop := WFc A ∧ WFx A ∧ WFd A ∧ WFo A ∧ WFt A ∧ WFe A ∧ WFr A ∧ WFw A
/-- joints, or houses: at the far end x comes y; where y was is none -/
def q_jn (o : Nat → Nat) (x y : Nat) : Nat → Nat := fun s => if s = x then y + 1 else if o s = y + 1 then 0 else o s
abbrev LY : Type := (Nat → Nat) × (Nat → Nat)
def q_op (A : AP) (k : Nat) (L : LY) : LY := if q_ok A k = 0 then (q_jn L.1 (q_os A k) (q_ow A k), L.2) else (L.1, q_jn L.2 (q_os A k) (q_ow A k))
def q_ly (A : AP) : Nat → LY
  | 0 => (fun _ => 0, fun _ => 0)
  | k + 1 => q_op A k (q_ly A k)
def q_und (A : AP) (w i : Nat) : Prop := ∃ k, k < q_nt A ∧ so w k ∧ q_tk A k = 3 ∧ q_tx A k = i
noncomputable def q_lw (A : AP) (w : Nat) : Nat → LY
  | 0 => q_ly A (q_nq A)
  | i + 1 => @ite _ (q_und A w i) (Classical.propDecidable _) (q_lw A w i) (q_op A (q_nq A + i) (q_lw A w i))
noncomputable def q_on (A : AP) (w : Nat) : Nat → Nat := (q_lw A w (q_ns A)).1
noncomputable def q_hg (A : AP) (w : Nat) : Nat → Nat := (q_lw A w (q_ns A)).2
def q_sw (a b s : Nat) : Nat := if s = a then b else if s = b then a else s
/-- is fault k a SWAP that is so? -/
abbrev q_is (A : AP) (w k kind : Nat) : Prop := so w k ∧ q_tk A k = kind
def q_a (A : AP) (k : Nat) : Nat := 8 * q_tx A k + q_tp A k
def q_b (A : AP) (k : Nat) : Nat := 8 * q_tx A k + q_tq A k
def q_ou (A : AP) (w : Nat) : Nat → Nat → Nat
  | 0 => fun s => s
  | k + 1 => fun s => if q_is A w k 0 then q_sw (q_a A k) (q_b A k) (q_ou A w k s) else q_ou A w k s
def q_iu (A : AP) (w : Nat) : Nat → Nat → Nat
  | 0 => fun s => s
  | k + 1 => fun s => q_iu A w k (if q_is A w k 0 then q_sw (q_a A k) (q_b A k) s else s)
def q_out (A : AP) (w : Nat) : Nat → Nat := q_ou A w (q_nt A)
def q_in (A : AP) (w : Nat) : Nat → Nat := q_iu A w (q_nt A)
def q_cn (A : AP) (w s d : Nat) : Nat → Nat
  | 0 => 0
  | k + 1 => q_cn A w s d k + if q_is A w k 1 ∧ q_a A k = s ∧ q_td A k ≤ d then 1 else 0
/-- BREAKS of a wire up to d metres; b: one more (its PAIR and 1, its metres) -/
def q_nk (A : AP) (w : Nat) (b : Nat × Nat) (s d : Nat) : Nat := (if b.1 = s + 1 ∧ b.2 ≤ d then 1 else 0) + q_cn A w s d (q_nt A)
def q_TT (A : AP) (w a b d : Nat) : Prop := ∃ k, k < q_nt A ∧ q_is A w k 2 ∧ q_a A k = a ∧ q_b A k = b ∧ q_td A k = d
def q_E (A : AP) (w : Nat) (b : Nat × Nat) (wet n m : Nat) : Prop := (∃ s, q_st A s ∧ q_on A w (q_out A w s) ≠ 0 ∧ n = 16 * s + q_nk A w b s (q_ln A (s / 8)) ∧ m + 16 = 16 * q_on A w (q_out A w s)) ∨ (wet = 1 ∧ ∃ x y d, q_TT A w x y d ∧ n = 16 * x + q_nk A w b x d ∧ m = 16 * y + q_nk A w b y d)
/-- a TONE at n comes to m -/
def q_R (A : AP) (w : Nat) (b : Nat × Nat) (wet n m : Nat) : Prop := ∀ P : Nat → Prop, P n → (∀ x y, q_E A w b wet x y → (P x ↔ P y)) → P m
/-- the piece at an end of a PAIR, by the numbers there -/
def q_nd (A : AP) (w : Nat) (b : Nat × Nat) (s e : Nat) : Nat := if e = 0 then 16 * s else 16 * q_in A w s + q_nk A w b (q_in A w s) (q_ln A (s / 8))
/-! ===== swaps ===== -/
theorem q_sw2 (a b s : Nat) : q_sw a b (q_sw a b s) = s := by
  unfold q_sw
  by_cases h1 : s = a
  · rw [if_pos h1]
    by_cases h2 : b = a
    · rw [if_pos h2, h1, h2]
    · rw [if_neg h2, if_pos rfl, h1]
  · rw [if_neg h1]
    by_cases h2 : s = b
    · rw [if_pos h2, if_pos rfl, h2]
    · rw [if_neg h2, if_neg h1, if_neg h2]
theorem q_iou (A : AP) (w : Nat) : ∀ k s, q_iu A w k (q_ou A w k s) = s := by
  intro k
  induction k with
  | zero => intro s; rfl
  | succ k ih =>
    intro s
    by_cases h : q_is A w k 0
    · simp only [q_iu, q_ou, if_pos h, q_sw2]
      exact ih s
    · simp only [q_iu, q_ou, if_neg h]
      exact ih s
theorem q_oiu (A : AP) (w : Nat) : ∀ k s, q_ou A w k (q_iu A w k s) = s := by
  intro k
  induction k with
  | zero => intro s; rfl
  | succ k ih =>
    intro s
    by_cases h : q_is A w k 0
    · simp only [q_iu, q_ou, if_pos h, ih, q_sw2]
    · simp only [q_iu, q_ou, if_neg h, ih]
theorem q_in_out {A : AP} {w s : Nat} : q_in A w (q_out A w s) = s := q_iou A w _ s
theorem q_out_in {A : AP} {w s : Nat} : q_out A w (q_in A w s) = s := q_oiu A w _ s
theorem q_sw_cases {a b s : Nat} : q_sw a b s = s ∨ (s = a ∧ q_sw a b s = b) ∨ (s = b ∧ q_sw a b s = a) := by
  unfold q_sw
  by_cases h1 : s = a
  · rw [if_pos h1]; exact Or.inr (Or.inl ⟨h1, rfl⟩)
  · rw [if_neg h1]
    by_cases h2 : s = b
    · rw [if_pos h2]; exact Or.inr (Or.inr ⟨h2, rfl⟩)
    · rw [if_neg h2]; exact Or.inl rfl
/-- the SWAP's ends are PAIRS of one CABLE -/
theorem q_abst {A : AP} (hA : WF A) {k : Nat} (hk : k < q_nt A) (h : q_tk A k = 0 ∨ q_tk A k = 2) : q_st A (q_a A k) ∧ q_st A (q_b A k) ∧ q_a A k / 8 = q_tx A k ∧ q_b A k / 8 = q_tx A k ∧ q_a A k % 8 = q_tp A k ∧ q_b A k % 8 = q_tq A k ∧ q_a A k ≠ q_b A k := by
  obtain ⟨h1, h2, h3, h4, h5⟩ := hA.2.2.2.2.1 k hk
  obtain ⟨h6, h7⟩ := h3 (by omega)
  obtain ⟨h8, h9⟩ := h4 h
  obtain ⟨_, _, _, h10, _⟩ := hA.2.1 _ h6
  have e1 : q_a A k / 8 = q_tx A k := by unfold q_a; omega
  have e2 : q_b A k / 8 = q_tx A k := by unfold q_b; omega
  have e3 : q_a A k % 8 = q_tp A k := by unfold q_a; omega
  have e4 : q_b A k % 8 = q_tq A k := by unfold q_b; omega
  refine ⟨⟨?_, ?_⟩, ⟨?_, ?_⟩, e1, e2, e3, e4, ?_⟩
  · rw [e1]; exact h6
  · rw [e1, e3]; exact h7
  · rw [e2]; exact h6
  · rw [e2, e4]; exact h8
  · intro e
    rw [← e3, ← e4, e] at h9
    exact h9 rfl
theorem q_ast {A : AP} (hA : WF A) {k : Nat} (hk : k < q_nt A) (h : q_tk A k < 3) : q_st A (q_a A k) ∧ q_a A k / 8 = q_tx A k ∧ q_a A k % 8 = q_tp A k := by
  obtain ⟨h1, h2, h3, h4, h5⟩ := hA.2.2.2.2.1 k hk
  obtain ⟨h6, h7⟩ := h3 h
  obtain ⟨_, _, _, h10, _⟩ := hA.2.1 _ h6
  have e1 : q_a A k / 8 = q_tx A k := by unfold q_a; omega
  have e3 : q_a A k % 8 = q_tp A k := by unfold q_a; omega
  exact ⟨⟨by rw [e1]; exact h6, by rw [e1, e3]; exact h7⟩, e1, e3⟩
theorem q_st_lt {A : AP} (hA : WF A) {s : Nat} (h : q_st A s) : s < 56 ∧ s % 8 < 6 ∧ s / 8 < 7 := by
  obtain ⟨h1, h2⟩ := h
  obtain ⟨_, _, _, h3, _⟩ := hA.2.1 _ h1
  have := hA.1.2.2.1
  omega
theorem q_sw_st {A : AP} (hA : WF A) {k s : Nat} (hk : k < q_nt A) (h : q_tk A k = 0) : (q_st A (q_sw (q_a A k) (q_b A k) s) ↔ q_st A s) ∧ q_sw (q_a A k) (q_b A k) s / 8 = s / 8 := by
  obtain ⟨h1, h2, h3, h4, _⟩ := q_abst hA hk (Or.inl h)
  rcases q_sw_cases (a := q_a A k) (b := q_b A k) (s := s) with e | ⟨e1, e2⟩ | ⟨e1, e2⟩
  · rw [e]; exact ⟨Iff.rfl, rfl⟩
  · rw [e2, e1]; exact ⟨⟨fun _ => h1, fun _ => h2⟩, by rw [h3, h4]⟩
  · rw [e2, e1]; exact ⟨⟨fun _ => h2, fun _ => h1⟩, by rw [h3, h4]⟩
theorem q_ou_st {A : AP} (hA : WF A) (w : Nat) : ∀ k s, k ≤ q_nt A → (q_st A (q_ou A w k s) ↔ q_st A s) ∧ q_ou A w k s / 8 = s / 8 := by
  intro k
  induction k with
  | zero => intro s _; exact ⟨Iff.rfl, rfl⟩
  | succ k ih =>
    intro s hk
    obtain ⟨i1, i2⟩ := ih s (by omega)
    by_cases h : q_is A w k 0
    · simp only [q_ou, if_pos h]
      obtain ⟨j1, j2⟩ := q_sw_st hA (s := q_ou A w k s) (show k < q_nt A by omega) h.2
      exact ⟨j1.trans i1, j2.trans i2⟩
    · simp only [q_ou, if_neg h]
      exact ⟨i1, i2⟩
theorem q_out_st {A : AP} (hA : WF A) {w s : Nat} : (q_st A (q_out A w s) ↔ q_st A s) ∧ q_out A w s / 8 = s / 8 := q_ou_st hA w _ s (Nat.le_refl _)
theorem q_in_st {A : AP} (hA : WF A) {w s : Nat} : (q_st A (q_in A w s) ↔ q_st A s) ∧ q_in A w s / 8 = s / 8 := by
  obtain ⟨h1, h2⟩ := q_out_st hA (w := w) (s := q_in A w s)
  rw [q_out_in] at h1 h2
  exact ⟨h1.symm, h2.symm⟩
/-- numbers above the PAIRS stay -/
theorem q_ou_hi {A : AP} (hA : WF A) (w : Nat) : ∀ k s, k ≤ q_nt A → ¬ q_st A s → q_ou A w k s = s := by
  intro k
  induction k with
  | zero => intro s _ _; rfl
  | succ k ih =>
    intro s hk hs
    by_cases h : q_is A w k 0
    · simp only [q_ou, if_pos h, ih s (by omega) hs]
      obtain ⟨h1, h2, _⟩ := q_abst hA (show k < q_nt A by omega) (Or.inl h.2)
      rcases q_sw_cases (a := q_a A k) (b := q_b A k) (s := s) with e | ⟨e1, e2⟩ | ⟨e1, e2⟩
      · exact e
      · rw [e1] at hs; exact absurd h1 hs
      · rw [e1] at hs; exact absurd h2 hs
    · simp only [q_ou, if_neg h]
      exact ih s (by omega) hs
theorem q_cn_le (A : AP) (w s d : Nat) : ∀ k, q_cn A w s d k ≤ k := by
  intro k
  induction k with
  | zero => exact Nat.le_refl 0
  | succ k ih =>
    simp only [q_cn]
    split <;> omega
/-- no more than eleven pieces -/
theorem q_nk_le {A : AP} (hA : WF A) {w s d : Nat} {b : Nat × Nat} (hb : b.1 = 0 ∨ w = 0) : q_nk A w b s d ≤ 10 := by
  have h1 := q_cn_le A w s d (q_nt A)
  have h2 := hA.1.2.2.2.2.2.1
  unfold q_nk
  rcases hb with hb | hb
  · rw [if_neg (by omega)]
    omega
  · subst hb
    have h3 : ∀ k, q_cn A 0 s d k = 0 := by
      intro k
      induction k with
      | zero => rfl
      | succ k ih =>
        simp only [q_cn, ih]
        rw [if_neg ?_]
        intro h
        have h4 := h.1.1
        unfold so at h4
        rw [Nat.zero_div] at h4
        omega
    rw [h3]
    split <;> omega
