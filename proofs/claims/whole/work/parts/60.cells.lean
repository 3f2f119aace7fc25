/-! ===== what the functions F_ do, over cells that are known: the small ones ===== -/
/-- an int array of ours -/
def cI (S : pm_S) (a n : Nat) (f : Nat → Int32) : Prop := ps_h S a = .inl (0, n, .inl f) ∧ pm_my S a = true
/-- an object of ours -/
def cO (S : pm_S) (a ci : Nat) (fs : List Value) : Prop := ps_h S a = .inr (ci, fs) ∧ pm_my S a = true
theorem oI_c {S : pm_S} {a ci k : Nat} {fs : List Value} {x : Int32} (h : cO S a ci fs) (hk : fs[k]? = some (.int x)) : oI S a ci k = some x := by
  unfold oI
  rw [h.1]
  dsimp only
  rw [if_pos (by rw [h.2]; simp), hk]
theorem oR_c {S : pm_S} {a ci k b : Nat} {fs : List Value} (h : cO S a ci fs) (hk : fs[k]? = some (.ref b)) : oR S a ci k = some (some b) := by
  unfold oR
  rw [h.1]
  dsimp only
  rw [if_pos (by rw [h.2]; simp), hk]
theorem oR_n {S : pm_S} {a ci k : Nat} {fs : List Value} (h : cO S a ci fs) (hk : fs[k]? = some .null) : oR S a ci k = some none := by
  unfold oR
  rw [h.1]
  dsimp only
  rw [if_pos (by rw [h.2]; simp), hk]
theorem rcv_c {S : pm_S} {a ci : Nat} {fs : List Value} (h : cO S a ci fs) : rcv S a ci = true := by
  unfold rcv
  rw [h.1]
  dsimp only
  rw [h.2]
  simp
theorem wF_c {S : pm_S} {a ci k : Nat} {fs : List Value} {ty : FieldType} {v : Value} (h : cO S a ci fs) (hf : pm_fit ty v = true) (hk : k < fs.length) : wF S a ci k ty v = some (pm_wr S a (.inr (ci, fs.set k v))) := by
  unfold wF
  rw [h.1]
  dsimp only
  rw [if_pos (by rw [h.2, hf]; simpa using hk)]
theorem aI_c {S : pm_S} {a n : Nat} {f : Nat → Int32} {i : Int32} (h : cI S a n f) (hi : pm_in i n = true) : aI [0, 6] S a i = some (f i.toNatClampNeg) := by
  unfold aI
  rw [h.1]
  dsimp only
  rw [if_pos (by rw [h.2, hi]; rfl)]
theorem aNS_c {S : pm_S} {a n : Nat} {f : Nat → Int32} (h : cI S a n f) : aNS S a = some (Int32.ofNat n) := by
  unfold aNS
  rw [h.1]
  dsimp only
  rw [if_neg (by decide)]
  unfold aN
  rw [h.1]
  dsimp only
  rw [if_pos (by rw [h.2]; rfl)]
theorem sI_c {S : pm_S} {a n : Nat} {f : Nat → Int32} {i x : Int32} (h : cI S a n f) (hi : pm_in i n = true) : sI [0] S a i x = some (pm_wr S a (.inl (0, n, .inl (upd f i.toNatClampNeg x)))) := by
  unfold sI
  rw [h.1]
  dsimp only
  rw [if_pos (by rw [h.2, hi]; rfl)]
  rfl
/-- a write of what stands there -/
theorem pm_wr_self {S : pm_S} {a : Nat} {c : pm_C} (h : ps_h S a = c) : pm_wr S a c = S := by
  obtain ⟨g, lo, hi, z⟩ := S
  have : pu g a c = g := by
    funext q
    unfold pu
    split
    · rename_i e
      rw [e]
      exact h.symm
    · rfl
  show (pu g a c, lo, hi, z) = (g, lo, hi, z)
  rw [this]
theorem pm_in_of {i : Int32} {n : Nat} (hn : n < 2 ^ 31) (h0 : ¬ i < 0) (h1 : ¬ Int32.ofNat n ≤ i) : pm_in i n = true := by
  rcases pk_ix i hn with h | h | ⟨j, hj, rfl⟩
  · exact absurd h h0
  · exact absurd h h1
  · exact pm_in_iff.mpr (vp_in_nI hj hn)
/-- valueAt and setAt, as they read and write a row of n ints -/
def vat (n : Nat) (f : Nat → Int32) (i : Int32) : Int32 := if i < 0 then -1 else if Int32.ofNat n ≤ i then -1 else f i.toNatClampNeg
def vset (n : Nat) (f : Nat → Int32) (i x : Int32) : Nat → Int32 := if i < 0 then f else if Int32.ofNat n ≤ i then f else upd f i.toNatClampNeg x
theorem s_valueAt {N : Nat} {S : pm_S} {a n : Nat} {f : Nat → Int32} {i : Int32} (h : cI S a n f) (hn : n < 2 ^ 31) : F_BP_valueAt N S a i = some (vat n f i, S) := by
  unfold F_BP_valueAt vat
  by_cases h0 : i < 0
  · rw [if_pos h0, if_pos h0]
    rfl
  · rw [if_neg h0, if_neg h0, aNS_c h, Option.bind_some]
    by_cases h1 : Int32.ofNat n ≤ i
    · rw [if_pos h1, if_pos h1]
      rfl
    · rw [if_neg h1, if_neg h1, aI_c h (pm_in_of hn h0 h1), Option.bind_some]
      rfl
theorem s_setAt {N : Nat} {S : pm_S} {a n : Nat} {f : Nat → Int32} {i x : Int32} (h : cI S a n f) (hn : n < 2 ^ 31) : F_BP_setAt N S a i x = some (pm_wr S a (.inl (0, n, .inl (vset n f i x)))) := by
  unfold F_BP_setAt vset
  by_cases h0 : i < 0
  · rw [if_pos h0, if_pos h0, pm_wr_self h.1]
    rfl
  · rw [if_neg h0, if_neg h0, aNS_c h, Option.bind_some]
    by_cases h1 : Int32.ofNat n ≤ i
    · rw [if_pos h1, if_pos h1, pm_wr_self h.1]
      rfl
    · rw [if_neg h1, if_neg h1, sI_c h (pm_in_of hn h0 h1), Option.bind_some]
      rfl
