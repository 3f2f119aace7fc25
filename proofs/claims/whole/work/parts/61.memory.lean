/-! ===== a heap as typed memory: what each cell is (D), its ints (c), its longs (e) ===== -/
/-- what a cell is: an array (kind, length); an object (class, its fields: (0, _) an int, (1, k) the cell k for ever, (2, _) a cell by the field's int, -1 none) -/
abbrev pd : Type := (Nat × Nat) ⊕ (Nat × List (Nat × Nat))
/-- a reference by an int -/
def rof (B : Nat) (x : Int32) : Option Nat := if x = -1 then none else some (B + x.toNatClampNeg)
def fw (B : Nat) (w : Int32) (s : Nat × Nat) : Value := if s.1 = 0 then .int w else if s.1 = 1 then .ref (B + s.2) else va_rf (rof B w)
def fv (B : Nat) (x : Nat → Int32) (j : Nat) (s : Nat × Nat) : Value := fw B (x j) s
def tA (B t : Nat) (x : Nat → Int32) (y : Nat → Int64) : (Nat → Int32) ⊕ (Nat → Int64) ⊕ (Nat → UInt32) ⊕ (Nat → UInt64) ⊕ (Nat → Option Nat) :=
  if t = 1 then .inr (.inl y) else if t = 4 ∨ t = 5 then .inr (.inr (.inr (.inr (fun j => rof B (x j))))) else .inl x
def tC (B : Nat) (d : pd) (x : Nat → Int32) (y : Nat → Int64) : pm_C := match d with
  | .inl (t, n) => .inl (t, n, tA B t x y)
  | .inr (ci, fl) => .inr (ci, fl.mapIdx (fun j s => fv B x j s))
/-- the state: below B as h0 has it, from B on the cells 0 .. hi - 1 -/
def mkS (h0 : Nat → pm_C) (B : Nat) (D : Nat → pd) (c : Nat → Nat → Int32) (e : Nat → Nat → Int64) (hi z : Nat) : pm_S :=
  (fun a => if a < B then h0 a else tC B (D (a - B)) (c (a - B)) (e (a - B)), B, B + hi, z)
def up1 {α : Type} (c : Nat → Nat → α) (k : Nat) (f : Nat → α) : Nat → Nat → α := fun q => if q = k then f else c q
theorem up1_same {α : Type} {c : Nat → Nat → α} {k : Nat} {f : Nat → α} : up1 c k f k = f := by simp [up1]
theorem up1_ne {α : Type} {c : Nat → Nat → α} {k q : Nat} {f : Nat → α} (h : q ≠ k) : up1 c k f q = c q := by simp [up1, h]
section MK
variable {h0 : Nat → pm_C} {B : Nat} {D : Nat → pd} {c : Nat → Nat → Int32} {e : Nat → Nat → Int64} {hi z k j n ci : Nat} {fl : List (Nat × Nat)} {N : Nat}
theorem mk_h : ps_h (mkS h0 B D c e hi z) (B + k) = tC B (D k) (c k) (e k) := by
  show (if B + k < B then h0 (B + k) else tC B (D (B + k - B)) (c (B + k - B)) (e (B + k - B))) = _
  rw [if_neg (by omega), show B + k - B = k by omega]
theorem mk_my (hk : k < hi) : pm_my (mkS h0 B D c e hi z) (B + k) = true := pm_my_iff.mpr ⟨Nat.le_add_right B k, Nat.add_lt_add_left hk B⟩
theorem mk_cO (hk : k < hi) (hD : D k = .inr (ci, fl)) : cO (mkS h0 B D c e hi z) (B + k) ci (fl.mapIdx (fun j s => fv B (c k) j s)) := ⟨by rw [mk_h, hD]; rfl, mk_my hk⟩
theorem mk_cI (hk : k < hi) (hD : D k = .inl (0, n)) : cI (mkS h0 B D c e hi z) (B + k) n (c k) := ⟨by rw [mk_h, hD]; rfl, mk_my hk⟩
theorem fv_get {x : Nat → Int32} {s : Nat × Nat} (h : fl[j]? = some s) : (fl.mapIdx (fun j s => fv B x j s))[j]? = some (fv B x j s) := by
  rw [List.getElem?_mapIdx, h]
  rfl
theorem oI_mk (hk : k < hi) (hD : D k = .inr (ci, fl)) {v : Nat} (hj : fl[j]? = some (0, v)) : oI (mkS h0 B D c e hi z) (B + k) ci j = some (c k j) := oI_c (mk_cO hk hD) (fv_get hj)
theorem oR_mk (hk : k < hi) (hD : D k = .inr (ci, fl)) {v : Nat} (hj : fl[j]? = some (1, v)) : oR (mkS h0 B D c e hi z) (B + k) ci j = some (some (B + v)) := oR_c (mk_cO hk hD) (fv_get hj)
theorem oD_mk (hk : k < hi) (hD : D k = .inr (ci, fl)) {v : Nat} (hj : fl[j]? = some (2, v)) : oR (mkS h0 B D c e hi z) (B + k) ci j = some (rof B (c k j)) := by
  have hg : (fl.mapIdx (fun j s => fv B (c k) j s))[j]? = some (va_rf (rof B (c k j))) := fv_get hj
  unfold rof at hg ⊢
  split at hg
  · rename_i h
    rw [if_pos h]
    exact oR_n (mk_cO hk hD) hg
  · rename_i h
    rw [if_neg h]
    exact oR_c (mk_cO hk hD) hg
theorem rcv_mk (hk : k < hi) (hD : D k = .inr (ci, fl)) : rcv (mkS h0 B D c e hi z) (B + k) ci = true := rcv_c (mk_cO hk hD)
theorem mk_wr {x : Nat → Int32} {y : Nat → Int64} {d : pm_C} (hd : d = tC B (D k) x y) : pm_wr (mkS h0 B D c e hi z) (B + k) d = mkS h0 B D (up1 c k x) (up1 e k y) hi z := by
  subst hd
  unfold mkS pm_wr
  refine Prod.ext ?_ rfl
  funext a
  show pu _ (B + k) _ a = _
  unfold pu
  by_cases ha : a = B + k
  · subst ha
    rw [if_pos rfl]
    show _ = (if B + k < B then h0 (B + k) else tC B (D (B + k - B)) (up1 c k x (B + k - B)) (up1 e k y (B + k - B)))
    rw [if_neg (by omega), show B + k - B = k by omega, up1_same, up1_same]
  · rw [if_neg ha]
    show (if a < B then h0 a else tC B (D (a - B)) (c (a - B)) (e (a - B))) = (if a < B then h0 a else tC B (D (a - B)) (up1 c k x (a - B)) (up1 e k y (a - B)))
    by_cases hb : a < B
    · rw [if_pos hb, if_pos hb]
    · rw [if_neg hb, if_neg hb, up1_ne (by omega), up1_ne (by omega)]
theorem up1_self {α : Type} {c : Nat → Nat → α} {k : Nat} : up1 c k (c k) = c := by
  funext q
  unfold up1
  split
  · rename_i h
    rw [h]
  · rfl
theorem fv_congr {x y : Nat → Int32} {q : Nat} (h : x q = y q) (t : Nat × Nat) : fv B x q t = fv B y q t := congrArg (fun w => fw B w t) h
theorem fv_setA {g h : Nat → Nat × Nat → Value} {s : Nat × Nat} (hj : fl[j]? = some s) (hne : ∀ q t, q ≠ j → g q t = h q t) : (fl.mapIdx g).set j (h j s) = fl.mapIdx h := by
  apply List.ext_getElem?
  intro q
  have hl := (List.getElem?_eq_some_iff.mp hj).1
  rw [List.getElem?_set, List.getElem?_mapIdx, List.getElem?_mapIdx]
  by_cases h1 : j = q
  · subst h1
    rw [if_pos rfl, if_pos (by rw [List.length_mapIdx]; exact hl), hj, Option.map_some]
  · rw [if_neg h1]
    cases hq : fl[q]? with
    | none => rw [Option.map_none, Option.map_none]
    | some t => rw [Option.map_some, Option.map_some, hne q t (fun z => h1 z.symm)]
theorem fv_set {x : Nat → Int32} {w : Int32} {s : Nat × Nat} (hj : fl[j]? = some s) : (fl.mapIdx (fun q s => fv B x q s)).set j (fv B (upd x j w) j s) = fl.mapIdx (fun q s => fv B (upd x j w) q s) :=
  fv_setA (g := fun q s => fv B x q s) (h := fun q s => fv B (upd x j w) q s) hj (fun q t hq => fv_congr (show x q = upd x j w q from (pk_un hq).symm) t)
/-- an int into a field -/
theorem wI_mk (hk : k < hi) (hD : D k = .inr (ci, fl)) {v : Nat} (hj : fl[j]? = some (0, v)) {w : Int32} : wF (mkS h0 B D c e hi z) (B + k) ci j .int (.int w) = some (mkS h0 B D (up1 c k (upd (c k) j w)) e hi z) := by
  have hl := (List.getElem?_eq_some_iff.mp hj).1
  rw [wF_c (mk_cO hk hD) rfl (by simpa using hl)]
  have e1 : (fl.mapIdx (fun j s => fv B (c k) j s)).set j (.int w) = fl.mapIdx (fun q s => fv B (upd (c k) j w) q s) := by
    have := fv_set (B := B) (x := c k) (w := w) hj
    rw [show fv B (upd (c k) j w) j (0, v) = .int w by show Value.int (upd (c k) j w j) = _; rw [pk_us]] at this
    exact this
  rw [e1, mk_wr (x := upd (c k) j w) (y := e k) (by rw [hD]; rfl), up1_self]
/-- a truth into a field -/
theorem wZ_mk (hk : k < hi) (hD : D k = .inr (ci, fl)) {v : Nat} (hj : fl[j]? = some (0, v)) {w : Int32} (hw : w = 0 ∨ w = 1) : wF (mkS h0 B D c e hi z) (B + k) ci j .boolean (.int w) = some (mkS h0 B D (up1 c k (upd (c k) j w)) e hi z) := by
  have hl := (List.getElem?_eq_some_iff.mp hj).1
  rw [wF_c (mk_cO hk hD) (by rcases hw with rfl | rfl <;> rfl) (by simpa using hl)]
  have e1 : (fl.mapIdx (fun j s => fv B (c k) j s)).set j (.int w) = fl.mapIdx (fun q s => fv B (upd (c k) j w) q s) := by
    have := fv_set (B := B) (x := c k) (w := w) hj
    rw [show fv B (upd (c k) j w) j (0, v) = .int w by show Value.int (upd (c k) j w j) = _; rw [pk_us]] at this
    exact this
  rw [e1, mk_wr (x := upd (c k) j w) (y := e k) (by rw [hD]; rfl), up1_self]
theorem rof_nI {q : Nat} (hq : q < 2 ^ 31) : rof B (nI q) = some (B + q) := by
  unfold rof
  rw [if_neg ?_, nI_clamp hq]
  intro h
  have h1 := nI_pos' hq
  rw [h] at h1
  exact absurd h1 (by decide)
/-- a reference into a field that may change -/
theorem wD_mk (hk : k < hi) (hD : D k = .inr (ci, fl)) {v q : Nat} (hj : fl[j]? = some (2, v)) (hq : q < 2 ^ 31) {C : String} : wF (mkS h0 B D c e hi z) (B + k) ci j (.object C) (.ref (B + q)) = some (mkS h0 B D (up1 c k (upd (c k) j (nI q))) e hi z) := by
  have hl := (List.getElem?_eq_some_iff.mp hj).1
  rw [wF_c (mk_cO hk hD) rfl (by simpa using hl)]
  have e1 : (fl.mapIdx (fun j s => fv B (c k) j s)).set j (.ref (B + q)) = fl.mapIdx (fun r s => fv B (upd (c k) j (nI q)) r s) := by
    have := fv_set (B := B) (x := c k) (w := nI q) hj
    rw [show fv B (upd (c k) j (nI q)) j (2, v) = .ref (B + q) by show va_rf (rof B (upd (c k) j (nI q) j)) = _; rw [pk_us, rof_nI hq]; rfl] at this
    exact this
  rw [e1, mk_wr (x := upd (c k) j (nI q)) (y := e k) (by rw [hD]; rfl), up1_self]
theorem aI_mk (hk : k < hi) (hD : D k = .inl (0, n)) {i : Int32} (hi' : pm_in i n = true) : aI [0, 6] (mkS h0 B D c e hi z) (B + k) i = some (c k i.toNatClampNeg) := aI_c (mk_cI hk hD) hi'
theorem aN_mk (hk : k < hi) (hD : D k = .inl (0, n)) : aNS (mkS h0 B D c e hi z) (B + k) = some (Int32.ofNat n) := aNS_c (mk_cI hk hD)
theorem sI_mk (hk : k < hi) (hD : D k = .inl (0, n)) {i x : Int32} (hi' : pm_in i n = true) : sI [0] (mkS h0 B D c e hi z) (B + k) i x = some (mkS h0 B D (up1 c k (upd (c k) i.toNatClampNeg x)) e hi z) := by
  rw [sI_c (mk_cI hk hD) hi', mk_wr (x := upd (c k) i.toNatClampNeg x) (y := e k) (by rw [hD]; rfl), up1_self]
theorem valueAt_mk (hk : k < hi) (hD : D k = .inl (0, n)) (hn : n < 2 ^ 31) {i : Int32} : F_BP_valueAt N (mkS h0 B D c e hi z) (B + k) i = some (vat n (c k) i, mkS h0 B D c e hi z) := s_valueAt (mk_cI hk hD) hn
theorem setAt_mk (hk : k < hi) (hD : D k = .inl (0, n)) (hn : n < 2 ^ 31) {i x : Int32} : F_BP_setAt N (mkS h0 B D c e hi z) (B + k) i x = some (mkS h0 B D (up1 c k (vset n (c k) i x)) e hi z) := by
  rw [s_setAt (mk_cI hk hD) hn, mk_wr (x := vset n (c k) i x) (y := e k) (by rw [hD]; rfl), up1_self]
end MK
