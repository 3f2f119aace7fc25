/-! ===== base rows: loops by fuel, numbers, bits, reads and writes of rows ===== -/
section LOOPS
variable {σ ρ : Type} {F : Nat → Nat → σ → Option ρ} {n : Nat} {I : Nat → σ → Prop} {Q : ρ → Prop}
/-- a loop that runs to its end -/
theorem lpE (hs : ∀ f i s, i < n → I i s → ∃ s', I (i + 1) s' ∧ F (f + 1) i s = F f (i + 1) s') : ∀ (fuel i : Nat) (s : σ), i ≤ n → n < fuel + i → I i s → ∃ f s', I n s' ∧ F fuel i s = F (f + 1) n s' := by
  intro fuel
  induction fuel with
  | zero => intro i s h1 h2 _; omega
  | succ f ih =>
    intro i s h1 h2 hI
    by_cases h : i = n
    · subst h
      exact ⟨f, s, hI, rfl⟩
    · obtain ⟨s', hI', e⟩ := hs f i s (by omega) hI
      obtain ⟨f', s'', hI'', e'⟩ := ih (i + 1) s' (by omega) (by omega) hI'
      exact ⟨f', s'', hI'', e.trans e'⟩
/-- a loop that may end early -/
theorem lpQ (hs : ∀ f i s, i < n → I i s → (∃ s', I (i + 1) s' ∧ F (f + 1) i s = F f (i + 1) s') ∨ (∃ r, Q r ∧ F (f + 1) i s = some r)) (hx : ∀ f s, I n s → ∃ r, Q r ∧ F (f + 1) n s = some r) : ∀ (fuel i : Nat) (s : σ), i ≤ n → n < fuel + i → I i s → ∃ r, Q r ∧ F fuel i s = some r := by
  intro fuel
  induction fuel with
  | zero => intro i s h1 h2 _; omega
  | succ f ih =>
    intro i s h1 h2 hI
    by_cases h : i = n
    · subst h
      exact hx f s hI
    · rcases hs f i s (by omega) hI with ⟨s', hI', e⟩ | h
      · obtain ⟨r, hr, e'⟩ := ih (i + 1) s' (by omega) (by omega) hI'
        exact ⟨r, hr, e.trans e'⟩
      · exact h
end LOOPS
/-- a loop by a measure -/
theorem lpM {σ ρ : Type} {F : Nat → σ → Option ρ} {I : σ → Prop} {Q : ρ → Prop} (μ : σ → Nat) (hs : ∀ f s, I s → (∃ s', I s' ∧ μ s' < μ s ∧ F (f + 1) s = F f s') ∨ (∃ r, Q r ∧ F (f + 1) s = some r)) : ∀ (fuel : Nat) (s : σ), μ s < fuel → I s → ∃ r, Q r ∧ F fuel s = some r := by
  intro fuel
  induction fuel with
  | zero => intro s h1 _; omega
  | succ f ih =>
    intro s h1 hI
    rcases hs f s hI with ⟨s', hI', hm, e⟩ | h
    · obtain ⟨r, hr, e'⟩ := ih s' (by omega) hI'
      exact ⟨r, hr, e.trans e'⟩
    · exact h
theorem L_0 : (0 : Int32) = nI 0 := rfl
theorem L_1 : (1 : Int32) = nI 1 := rfl
theorem L_2 : (2 : Int32) = nI 2 := rfl
theorem L_3 : (3 : Int32) = nI 3 := rfl
theorem L_4 : (4 : Int32) = nI 4 := rfl
theorem L_5 : (5 : Int32) = nI 5 := rfl
theorem L_6 : (6 : Int32) = nI 6 := rfl
theorem L_7 : (7 : Int32) = nI 7 := rfl
theorem L_8 : (8 : Int32) = nI 8 := rfl
theorem L_9 : (9 : Int32) = nI 9 := rfl
theorem L_10 : (10 : Int32) = nI 10 := rfl
theorem L_11 : (11 : Int32) = nI 11 := rfl
theorem L_12 : (12 : Int32) = nI 12 := rfl
theorem L_15 : (15 : Int32) = nI 15 := rfl
theorem L_16 : (16 : Int32) = nI 16 := rfl
theorem L_20 : (20 : Int32) = nI 20 := rfl
theorem L_24 : (24 : Int32) = nI 24 := rfl
theorem L_26 : (26 : Int32) = nI 26 := rfl
theorem L_31 : (31 : Int32) = nI 31 := rfl
theorem L_32 : (32 : Int32) = nI 32 := rfl
theorem L_42 : (42 : Int32) = nI 42 := rfl
theorem L_48 : (48 : Int32) = nI 48 := rfl
theorem L_56 : (56 : Int32) = nI 56 := rfl
theorem L_57 : (57 : Int32) = nI 57 := rfl
theorem L_59 : (59 : Int32) = nI 59 := rfl
theorem L_60 : (60 : Int32) = nI 60 := rfl
theorem L_97 : (97 : Int32) = nI 97 := rfl
theorem L_98 : (98 : Int32) = nI 98 := rfl
theorem L_99 : (99 : Int32) = nI 99 := rfl
theorem L_104 : (104 : Int32) = nI 104 := rfl
theorem L_106 : (106 : Int32) = nI 106 := rfl
theorem L_255 : (255 : Int32) = nI 255 := rfl
theorem L_300 : (300 : Int32) = nI 300 := rfl
theorem L_462 : (462 : Int32) = nI 462 := rfl
theorem L_616 : (616 : Int32) = nI 616 := rfl
theorem nI_mul (a b : Nat) : nI a * nI b = nI (a * b) := pk_mul a b
theorem i32_ext {x y : Int32} (h : x.toBitVec.toNat = y.toBitVec.toNat) : x = y := Int32.toBitVec_inj.mp (BitVec.eq_of_toNat_eq h)
theorem nI_bv (n : Nat) : (nI n).toBitVec.toNat = n % 2 ^ 32 := rfl
theorem nI_or (a b : Nat) : nI a ||| nI b = nI (a ||| b) := by
  apply i32_ext
  rw [Int32.toBitVec_or, BitVec.toNat_or, nI_bv, nI_bv, nI_bv, Nat.or_mod_two_pow]
theorem nI_and (a b : Nat) : nI a &&& nI b = nI (a &&& b) := by
  apply i32_ext
  rw [Int32.toBitVec_and, BitVec.toNat_and, nI_bv, nI_bv, nI_bv, Nat.and_mod_two_pow]
theorem nI_xor (a b : Nat) : nI a ^^^ nI b = nI (a ^^^ b) := by
  apply i32_ext
  rw [Int32.toBitVec_xor, BitVec.toNat_xor, nI_bv, nI_bv, nI_bv, Nat.xor_mod_two_pow]
theorem sh31 : ∀ k, k < 32 → ((nI k &&& nI 31).toBitVec.smod 32).toNat = k := by decide +kernel
theorem nI_shr {w k : Nat} (hw : w < 2 ^ 31) (hk : k < 32) : nI w >>> (nI k &&& nI 31) = nI (w / 2 ^ k) := pk_shrN hw _ k (sh31 k hk)
theorem nI_shl {w k : Nat} (hk : k < 32) (hw : w * 2 ^ k < 2 ^ 32) : nI w <<< (nI k &&& nI 31) = nI (w * 2 ^ k) := pk_shlN _ k (sh31 k hk) hw
theorem nI_and1 (w : Nat) : nI w &&& nI 1 = nI (w % 2) := by rw [nI_and, show w &&& 1 = w % 2 by rw [Nat.and_one_is_mod]]
/-- the bit k of a set -/
abbrev so (w k : Nat) : Prop := w / 2 ^ k % 2 = 1
theorem so_tb {w k : Nat} : so w k ↔ w.testBit k = true := by
  unfold so
  rw [Nat.testBit_eq_decide_div_mod_eq]
  simp
theorem bit01 (w k : Nat) : w / 2 ^ k % 2 = 0 ∨ w / 2 ^ k % 2 = 1 := by omega
/-- a number or none: 0 none, v + 1 the number v -/
def cd (v : Nat) : Int32 := nI v - nI 1
theorem cd_0 : cd 0 = -1 := by decide +kernel
theorem neg1 : -nI 1 = cd 0 := by decide +kernel
theorem cd_s (v : Nat) : cd (v + 1) = nI v := nI_pred v
theorem nI_n1 {n : Nat} (h : n < 2 ^ 31) : ¬ nI n = -1 := by
  intro e
  have h1 := nI_pos' h
  rw [e] at h1
  exact absurd h1 (by decide)
theorem n1_nI {n : Nat} (h : n < 2 ^ 31) : ¬ -1 = nI n := fun e => nI_n1 h e.symm
theorem cd_n1 {v : Nat} (h : v < 2 ^ 31) : cd v = -1 ↔ v = 0 := by
  cases v with
  | zero => exact ⟨fun _ => rfl, fun _ => cd_0⟩
  | succ v => rw [cd_s]; exact ⟨fun e => absurd e (nI_n1 (by omega)), fun e => by omega⟩
theorem cd_eq {a b : Nat} (ha : a < 2 ^ 31) (hb : b < 2 ^ 31) : cd a = cd b ↔ a = b := by
  cases a with
  | zero => rw [cd_0]; exact ⟨fun e => ((cd_n1 hb).mp e.symm).symm, fun e => by rw [← e, cd_0]⟩
  | succ a => cases b with
    | zero => rw [cd_0, cd_s]; exact ⟨fun e => absurd e (nI_n1 (by omega)), fun e => by omega⟩
    | succ b => rw [cd_s, cd_s, nI_eq (by omega) (by omega)]; omega
theorem cd_nI {a b : Nat} (ha : a < 2 ^ 31) (hb : b < 2 ^ 31) : cd a = nI b ↔ a = b + 1 := by
  cases a with
  | zero => rw [cd_0]; exact ⟨fun e => absurd e (n1_nI hb), fun e => by omega⟩
  | succ a => rw [cd_s, nI_eq (by omega) hb]; omega
theorem nI_cd {a b : Nat} (ha : a < 2 ^ 31) (hb : b < 2 ^ 31) : nI b = cd a ↔ a = b + 1 := by
  rw [← cd_nI ha hb]
  exact ⟨fun e => e.symm, fun e => e.symm⟩
theorem m1_lt : ((-1 : Int32) < 0) := by decide
theorem pmin {j n : Nat} (h : j < n) (hn : n < 2 ^ 31) : pm_in (nI j) n = true := pm_in_iff.mpr (vp_in_nI h hn)
theorem rdA_nI {s : mst} {k n j : Nat} (h : j < n) (hn : n < 2 ^ 31) : rdA s k n (nI j) = some (s.1 k j) := by
  unfold rdA
  rw [if_pos (pmin h hn), nI_clamp (by omega)]
theorem rdJ_nI {s : mst} {k n j : Nat} (h : j < n) (hn : n < 2 ^ 31) : rdJ s k n (nI j) = some (s.2 k j) := by
  unfold rdJ
  rw [if_pos (pmin h hn), nI_clamp (by omega)]
/-- a write into a cell -/
def wr1 (s : mst) (k j : Nat) (x : Int32) : mst := (up1 s.1 k (upd (s.1 k) j x), s.2)
theorem stA_nI {s : mst} {k n j : Nat} {x : Int32} (h : j < n) (hn : n < 2 ^ 31) : stA 0 s k n (nI j) x = some (wr1 s k j x) := by
  unfold stA wr1
  rw [if_pos (pmin h hn), nI_clamp (by omega)]
  rfl
theorem stZ_nI {s : mst} {k n j : Nat} {x : Int32} (h : j < n) (hn : n < 2 ^ 31) : stA 3 s k n (nI j) x = some (wr1 s k j (pm_nar 3 x)) := by
  unfold stA wr1
  rw [if_pos (pmin h hn), nI_clamp (by omega)]
theorem nar3_0 : pm_nar 3 0 = 0 := by decide +kernel
theorem nar3_1 : pm_nar 3 1 = 1 := by decide +kernel
theorem wrI_1 {s : mst} {k j : Nat} {x : Int32} : wrI s k j x = wr1 s k j x := rfl
theorem wr1_ne {s : mst} {k j q : Nat} {x : Int32} (h : q ≠ k) : (wr1 s k j x).1 q = s.1 q := up1_ne h
theorem wr1_at {s : mst} {k j i : Nat} {x : Int32} : (wr1 s k j x).1 k i = if i = j then x else s.1 k i := by
  show up1 s.1 k (upd (s.1 k) j x) k i = _
  rw [up1_same]
  rfl
theorem wr1_2 {s : mst} {k j : Nat} {x : Int32} : (wr1 s k j x).2 = s.2 := rfl
theorem wr1_g {s : mst} {k j q i : Nat} {x : Int32} : (wr1 s k j x).1 q i = if q = k ∧ i = j then x else s.1 q i := by
  by_cases h : q = k
  · subst h
    rw [wr1_at]
    simp
  · rw [wr1_ne h, if_neg (fun e => h e.1)]
theorem i_neg {x : Int32} : x < 0 ↔ x.toInt < 0 := by rw [Int32.lt_iff_toInt_lt]; rfl
theorem i_lt {x y : Int32} : x < y ↔ x.toInt < y.toInt := Int32.lt_iff_toInt_lt
theorem i_le {x y : Int32} : x ≤ y ↔ x.toInt ≤ y.toInt := Int32.le_iff_toInt_le
/-- rows read and written through the class's two -/
theorem vat_nI {n j : Nat} {f : Nat → Int32} (h : j < n) (hn : n < 2 ^ 31) : vat n f (nI j) = f j := by
  show (if nI j < 0 then -1 else if nI n ≤ nI j then -1 else f (nI j).toNatClampNeg) = _
  rw [if_neg (nI_pos (by omega)), if_neg (nI_ge h hn), nI_clamp (by omega)]
theorem vat_out {n j : Nat} {f : Nat → Int32} (h : n ≤ j) (hn : j < 2 ^ 31) : vat n f (nI j) = -1 := by
  show (if nI j < 0 then -1 else if nI n ≤ nI j then -1 else f (nI j).toNatClampNeg) = _
  rw [if_neg (nI_pos (by omega)), if_pos (nI_le h hn)]
theorem vat_n1 {n : Nat} {f : Nat → Int32} : vat n f (-1) = -1 := by
  unfold vat
  rw [if_pos m1_lt]
theorem vset_nI {n j : Nat} {f : Nat → Int32} {x : Int32} (h : j < n) (hn : n < 2 ^ 31) : vset n f (nI j) x = upd f j x := by
  show (if nI j < 0 then f else if nI n ≤ nI j then f else upd f (nI j).toNatClampNeg x) = _
  rw [if_neg (nI_pos (by omega)), if_neg (nI_ge h hn), nI_clamp (by omega)]
theorem vset_n1 {n : Nat} {f : Nat → Int32} {x : Int32} : vset n f (-1) x = f := by
  unfold vset
  rw [if_pos m1_lt]
theorem upd_g {f : Nat → Int32} {j i : Nat} {x : Int32} : upd f j x i = if i = j then x else f i := rfl
theorem vat_cd {n v : Nat} {f : Nat → Int32} (h : v ≤ n) (hn : n < 2 ^ 31) : vat n f (cd v) = if v = 0 then -1 else f (v - 1) := by
  cases v with
  | zero => rw [cd_0, vat_n1, if_pos rfl]
  | succ v => rw [cd_s, vat_nI h hn, if_neg (by omega)]; rfl
theorem vset_cd {n v : Nat} {f : Nat → Int32} {x : Int32} (h : v ≤ n) (hn : n < 2 ^ 31) : vset n f (cd v) x = if v = 0 then f else upd f (v - 1) x := by
  cases v with
  | zero => rw [cd_0, vset_n1, if_pos rfl]
  | succ v => rw [cd_s, vset_nI h hn, if_neg (by omega)]; rfl
