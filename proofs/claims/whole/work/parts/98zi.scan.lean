/-! ===== the TEXT: bytes, blanks, numbers ===== -/
/-- a byte and 1, or 0 behind the end -/
def tby (L : Nat) (bt : Nat → Nat) (i : Nat) : Nat := if i < L then bt i + 1 else 0
def dg (v : Nat) : Prop := 49 ≤ v ∧ v ≤ 58
def skF (b : Nat → Nat) : Nat → Nat → Nat
  | 0, i => i
  | f + 1, i => if b i = 33 then skF b f (i + 1) else i
/-- the first that is no blank -/
def SK (b : Nat → Nat) (i j : Nat) : Prop := i ≤ j ∧ (∀ m, i ≤ m → m < j → b m = 33) ∧ b j ≠ 33
noncomputable def sk (b : Nat → Nat) (i : Nat) : Nat := Classical.epsilon (SK b i)
/-- a TEXT of at most 300 bytes -/
def TX (b : Nat → Nat) (L : Nat) : Prop := L ≤ 300 ∧ (∀ i, b i ≤ 256) ∧ ∀ i, b i = 0 ↔ L ≤ i
theorem TX_of {L : Nat} {bt : Nat → Nat} (hL : L ≤ 300) (hb : ∀ i, i < L → bt i < 256) : TX (tby L bt) L := by
  refine ⟨hL, fun i => ?_, fun i => ?_⟩
  · unfold tby
    split
    · rename_i h; have := hb i h; omega
    · omega
  · unfold tby
    split <;> omega
section SKP
variable {b : Nat → Nat} {L i j f : Nat}
theorem skF_spec : ∀ f i, i ≤ skF b f i ∧ skF b f i ≤ i + f ∧ (∀ m, i ≤ m → m < skF b f i → b m = 33) ∧ (b (skF b f i) ≠ 33 ∨ skF b f i = i + f) := by
  intro f
  induction f with
  | zero => intro i; exact ⟨Nat.le_refl _, Nat.le_refl _, fun m h1 h2 => by simp only [skF] at h2; omega, Or.inr rfl⟩
  | succ f ih =>
    intro i
    simp only [skF]
    by_cases c : b i = 33
    · rw [if_pos c]
      obtain ⟨h1, h2, h3, h4⟩ := ih (i + 1)
      refine ⟨by omega, by omega, fun m m1 m2 => ?_, ?_⟩
      · by_cases e : m = i
        · rw [e]; exact c
        · exact h3 m (by omega) m2
      · rcases h4 with h4 | h4
        · exact Or.inl h4
        · exact Or.inr (by omega)
    · rw [if_neg c]
      exact ⟨Nat.le_refl _, by omega, fun m m1 m2 => by omega, Or.inl c⟩
theorem SK_u (h : SK b i j) {j' : Nat} (h' : SK b i j') : j = j' := by
  by_cases c : j < j'
  · exact absurd (h'.2.1 j h.1 c) h.2.2
  · by_cases d : j' < j
    · exact absurd (h.2.1 j' h'.1 d) h'.2.2
    · omega
theorem sk_SK (h : TX b L) : SK b i (sk b i) := by
  apply Classical.epsilon_spec (p := SK b i)
  obtain ⟨h1, h2, h3, h4⟩ := skF_spec (b := b) 301 i
  refine ⟨skF b 301 i, h1, h3, ?_⟩
  rcases h4 with h4 | h4
  · exact h4
  · intro e
    have h6 := (h.2.2 (skF b 301 i)).mpr (by have := h.1; omega)
    rw [h6] at e
    exact absurd e (by decide)
theorem SK_le (h : TX b L) (hi : i ≤ L) (hs : SK b i j) : j ≤ L := by
  by_cases c : j ≤ L
  · exact c
  · have := hs.2.1 L hi (by omega)
    have h2 := (h.2.2 L).mpr (Nat.le_refl _)
    omega
theorem sk_le (h : TX b L) (hi : i ≤ L) : sk b i ≤ L := SK_le h hi (sk_SK h)
theorem sk_ge (h : TX b L) : i ≤ sk b i := (sk_SK h).1
end SKP
/-- a number: a fault, or the number and where it ends -/
noncomputable def nmb (b : Nat → Nat) (i : Nat) : Nat ⊕ (Nat × Nat) := if b i = 33 then (@ite _ (dg (b (sk b i))) (Classical.propDecidable _) (@ite _ (dg (b (sk b i + 1))) (Classical.propDecidable _) (.inr (10 * (b (sk b i) - 49) + (b (sk b i + 1) - 49), sk b i + 2)) (.inr (b (sk b i) - 49, sk b i + 1))) (.inl (sk b i))) else .inl i
noncomputable def nmR (b : Nat → Nat) (i : Nat) (ok : Nat → Prop) : Nat ⊕ (Nat × Nat) := match nmb b i with
  | .inl f => .inl f
  | .inr (v, j) => @ite _ (ok v) (Classical.propDecidable _) (@ite _ (dg (b j)) (Classical.propDecidable _) (.inl j) (.inr (v, j))) (.inl (j - 1))
section NMS
variable {b : Nat → Nat} {L i j f v : Nat} {ok : Nat → Prop}
theorem nmb_l (h : b i ≠ 33) : nmb b i = .inl i := by
  unfold nmb
  rw [if_neg h]
theorem nmb_d (h : b i = 33) (hd : ¬ dg (b (sk b i))) : nmb b i = .inl (sk b i) := by
  unfold nmb
  rw [if_pos h, if_neg hd]
theorem nmb_1 (h : b i = 33) (hd : dg (b (sk b i))) (h2 : ¬ dg (b (sk b i + 1))) : nmb b i = .inr (b (sk b i) - 49, sk b i + 1) := by
  unfold nmb
  rw [if_pos h, if_pos hd, if_neg h2]
theorem nmb_2 (h : b i = 33) (hd : dg (b (sk b i))) (h2 : dg (b (sk b i + 1))) : nmb b i = .inr (10 * (b (sk b i) - 49) + (b (sk b i + 1) - 49), sk b i + 2) := by
  unfold nmb
  rw [if_pos h, if_pos hd, if_pos h2]
theorem nmb_cases (b : Nat → Nat) (i : Nat) : (b i ≠ 33 ∧ nmb b i = .inl i) ∨ (b i = 33 ∧ ¬ dg (b (sk b i)) ∧ nmb b i = .inl (sk b i)) ∨ (b i = 33 ∧ dg (b (sk b i)) ∧ ¬ dg (b (sk b i + 1)) ∧ nmb b i = .inr (b (sk b i) - 49, sk b i + 1)) ∨ (b i = 33 ∧ dg (b (sk b i)) ∧ dg (b (sk b i + 1)) ∧ nmb b i = .inr (10 * (b (sk b i) - 49) + (b (sk b i + 1) - 49), sk b i + 2)) := by
  by_cases c : b i = 33
  · by_cases d : dg (b (sk b i))
    · by_cases e : dg (b (sk b i + 1))
      · exact Or.inr (Or.inr (Or.inr ⟨c, d, e, nmb_2 c d e⟩))
      · exact Or.inr (Or.inr (Or.inl ⟨c, d, e, nmb_1 c d e⟩))
    · exact Or.inr (Or.inl ⟨c, d, nmb_d c d⟩)
  · exact Or.inl ⟨c, nmb_l c⟩
/-- a number that is there is below 100, ends within the TEXT, and is two bytes at least -/
theorem nmb_b (h : TX b L) (hi : i ≤ L) (e : nmb b i = .inr (v, j)) : v < 100 ∧ i + 2 ≤ j ∧ j ≤ L := by
  have hge := sk_ge (i := i) h
  have hlt : ∀ m, dg (b m) → m < L := by
    intro m hm
    by_cases c : m < L
    · exact c
    · have := (h.2.2 m).mpr (by omega)
      unfold dg at hm
      omega
  have hgt : b i = 33 → dg (b (sk b i)) → i < sk b i := by
    intro h1 h2
    by_cases c : sk b i = i
    · rw [c, h1] at h2
      unfold dg at h2
      omega
    · omega
  rcases nmb_cases b i with ⟨_, y⟩ | ⟨_, _, y⟩ | ⟨y1, y2, y3, y⟩ | ⟨y1, y2, y3, y⟩
  · rw [y] at e; cases e
  · rw [y] at e; cases e
  · rw [y] at e
    cases e
    have := hlt _ y2
    have := hgt y1 y2
    unfold dg at y2
    omega
  · rw [y] at e
    cases e
    have := hlt _ y3
    have := hgt y1 y2
    unfold dg at y2 y3
    omega
theorem nmb_f (h : TX b L) (hi : i ≤ L) (e : nmb b i = .inl f) : f ≤ L := by
  rcases nmb_cases b i with ⟨_, y⟩ | ⟨_, _, y⟩ | ⟨y1, y2, y3, y⟩ | ⟨y1, y2, y3, y⟩
  · rw [y] at e; cases e; exact hi
  · rw [y] at e; cases e; exact sk_le h hi
  · rw [y] at e; cases e
  · rw [y] at e; cases e
theorem nmR_l (e : nmb b i = .inl f) : nmR b i ok = .inl f := by
  unfold nmR
  rw [e]
theorem nmR_n (e : nmb b i = .inr (v, j)) (h : ¬ ok v) : nmR b i ok = .inl (j - 1) := by
  unfold nmR
  rw [e]
  exact if_neg h
theorem nmR_3 (e : nmb b i = .inr (v, j)) (h : ok v) (hd : dg (b j)) : nmR b i ok = .inl j := by
  unfold nmR
  rw [e]
  exact (if_pos h).trans (if_pos hd)
theorem nmR_g (e : nmb b i = .inr (v, j)) (h : ok v) (hd : ¬ dg (b j)) : nmR b i ok = .inr (v, j) := by
  unfold nmR
  rw [e]
  exact (if_pos h).trans (if_neg hd)
end NMS
/-! ===== the class reads ===== -/
def CTX (s : mst) (b : Nat → Nat) (L : Nat) : Prop := TX b L ∧ s.1 1 1 = nI L ∧ ∀ i, i < L → s.1 2 i = nI (b i - 1)
def RTX (s : mst) (b : Nat → Nat) (L : Nat) : Prop := TX b L ∧ s.1 85 2 = nI L ∧ ∀ i, i < L → s.1 86 i &&& 255 = nI (b i - 1)
section CRD
variable {N : Nat} {s : mst} {b : Nat → Nat} {L i f : Nat}
theorem g_byte (h : CTX s b L) (hi : i ≤ 400) : G_Tape_byteAt N s (nI i) = some (cd (b i), s) := by
  obtain ⟨h1, h2, h3⟩ := h
  have hL := h1.1
  unfold G_Tape_byteAt G_Tape_byteAt_20
  rw [h2]
  by_cases c : i < L
  · have hb : b i ≠ 0 := fun e => by have := (h1.2.2 i).mp e; omega
    rw [if_neg (nI_ge c (by omega)), vat_nI (by omega) (by decide), h3 i c]
    obtain ⟨v, hv⟩ : ∃ v, b i = v + 1 := ⟨b i - 1, by omega⟩
    rw [hv, cd_s, Nat.add_sub_cancel]
  · rw [if_pos (nI_le (by omega) (by omega)), (h1.2.2 i).mpr (by omega), cd_0]
theorem cd_32 (h : TX b L) : cd (b i) = 32 ↔ b i = 33 := by
  have := h.2.1 i
  rw [L_32]
  exact cd_nI (by omega) (by omega)
/-- only cell 3's field 1 (where) changes -/
def atS (s : mst) (i : Nat) : mst := wr1 s 3 1 (nI i)
theorem atS_c (h : CTX s b L) {i : Nat} : CTX (atS s i) b L := by
  unfold CTX atS at *
  rw [wr1_ne (by decide), wr1_ne (by decide)]
  exact h
theorem atS_2 {i : Nat} : (atS s i).1 3 1 = nI i := by unfold atS; rw [wr1_at, if_pos rfl]
theorem atS_k {i k : Nat} (h : k ≠ 3) : (atS s i).1 k = s.1 k := by unfold atS; exact wr1_ne h
theorem atS_j {i j : Nat} (h : j ≠ 1) : (atS s i).1 3 j = s.1 3 j := by unfold atS; rw [wr1_at, if_neg h]
theorem atS_a {i j : Nat} : atS (atS s i) j = atS s j := by
  unfold atS wr1
  refine Prod.ext ?_ rfl
  funext q
  show up1 (up1 s.1 3 (upd (s.1 3) 1 (nI i))) 3 (upd (up1 s.1 3 (upd (s.1 3) 1 (nI i)) 3) 1 (nI j)) q = up1 s.1 3 (upd (s.1 3) 1 (nI j)) q
  by_cases c : q = 3
  · subst c
    rw [up1_same, up1_same, up1_same]
    funext k
    unfold upd
    split <;> rfl
  · rw [up1_ne c, up1_ne c, up1_ne c]
theorem atS_s {i : Nat} (h : s.1 3 1 = nI i) : atS s i = s := wr1_self h
theorem g_skip (hN : 1000 ≤ N) (h : CTX s b L) (hi : i ≤ L) (ha : s.1 3 1 = nI i) : G_Reader_skipBlanks N s = some (atS s (sk b i)) := by
  have hT := h.1
  have hL := hT.1
  have hS := sk_SK (i := i) hT
  have hle := sk_le hT hi
  unfold G_Reader_skipBlanks
  have key : ∀ n f m x, n = sk b i - m → n < f → i ≤ m → m ≤ sk b i → x + i = m → G_Reader_skipBlanks_2 N f (nI x) (atS s m) = some (atS s (sk b i)) := by
    intro n
    induction n with
    | zero =>
      intro f m x h1 h2 h3 h4 h5
      obtain ⟨f, rfl⟩ : ∃ g, f = g + 1 := ⟨f - 1, by omega⟩
      have em : m = sk b i := by omega
      subst em
      show GB_Reader_skipBlanks_2 N (G_Reader_skipBlanks_2 N f) (nI x) (atS s (sk b i)) = _
      unfold GB_Reader_skipBlanks_2 G_Reader_skipBlanks_41
      rw [atS_2, g_byte (atS_c h) (by omega), Option.bind_some]
      dsimp only
      rw [if_neg (show ¬ cd (b (sk b i)) = 32 from fun e => hS.2.2 ((cd_32 hT).mp e)), ite_self]
    | succ n ih =>
      intro f m x h1 h2 h3 h4 h5
      obtain ⟨f, rfl⟩ : ∃ g, f = g + 1 := ⟨f - 1, by omega⟩
      show GB_Reader_skipBlanks_2 N (G_Reader_skipBlanks_2 N f) (nI x) (atS s m) = _
      unfold GB_Reader_skipBlanks_2 G_Reader_skipBlanks_41
      have hb := hS.2.1 m h3 (by omega)
      rw [L_300, if_neg (nI_ge (by omega) (by decide)), atS_2, g_byte (atS_c h) (by omega), Option.bind_some]
      dsimp only
      rw [if_pos ((cd_32 hT).mpr hb), atS_2, nI_1, nI_1]
      have := ih f (m + 1) (x + 1) (by omega) (by omega) (by omega) (by omega) (by omega)
      rw [← this]
      show G_Reader_skipBlanks_2 N f (nI (x + 1)) (atS (atS s m) (m + 1)) = _
      rw [atS_a]
  have hk := key (sk b i - i) N i 0 rfl (by omega) (Nat.le_refl _) hS.1 (by omega)
  rw [atS_s ha] at hk
  exact hk
theorem g_digit (h : CTX s b L) (hi : i ≤ 400) : (dg (b i) ∧ G_Reader_digitAt N s (nI i) = some (nI (b i - 49), s)) ∨ (¬ dg (b i) ∧ G_Reader_digitAt N s (nI i) = some (-1, s)) := by
  have hb := h.1.2.1 i
  unfold G_Reader_digitAt G_Reader_digitAt_28 G_Reader_digitAt_29
  rw [g_byte h hi, Option.bind_some]
  dsimp only
  by_cases c0 : b i = 0
  · right
    refine ⟨by unfold dg; omega, ?_⟩
    rw [c0, cd_0, if_pos (by decide)]
  · obtain ⟨v, hv⟩ : ∃ v, b i = v + 1 := ⟨b i - 1, by omega⟩
    rw [hv, cd_s, L_48, L_57]
    by_cases c1 : v < 48
    · right
      refine ⟨by unfold dg; omega, by rw [if_pos (nI_lt c1 (by decide))]⟩
    · rw [if_neg (nI_nlt (by omega) (by omega))]
      by_cases c2 : 57 < v
      · right
        refine ⟨by unfold dg; omega, by rw [if_pos (nI_lt c2 (by omega))]⟩
      · left
        refine ⟨by unfold dg; omega, ?_⟩
        rw [if_neg (nI_nlt (by omega) (by decide)), pk_sub (by omega), show v + 1 - 49 = v - 48 by omega]
end CRD
