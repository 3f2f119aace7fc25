/-! ===== what holds between the pure machine's heap and the machine's ===== -/
def pm_E (dA : Nat → ClassId) (c : pm_C) : va_E := match c with
  | .inl (t, x) => .inl (dA t, x)
  | .inr o => .inr o
def pm_tys (dA : Nat → ClassId) : List (ClassId × FieldType) := [(dA 0, .int), (dA 1, .long), (dA 2, .byte), (dA 3, .boolean), (dA 4, .object "BuriedPairs$Plan"), (dA 5, .array .int)]
def pm_W (dA : Nat → ClassId) (lo hi : Nat) (h : Nat → pm_C) : va_W := (List.range' lo (hi - lo)).map (fun a => (a, pm_E dA (h a)))
theorem pm_W_get {dA : Nat → ClassId} {lo hi a : Nat} {h : Nat → pm_C} (h1 : lo ≤ a) (h2 : a < hi) : (pm_W dA lo hi h)[a - lo]? = some (a, pm_E dA (h a)) := by
  unfold pm_W
  rw [List.getElem?_map, List.getElem?_range' (by omega)]
  have e : lo + 1 * (a - lo) = a := by omega
  simp only [e, Option.map_some]
theorem pm_W_at {dA : Nat → ClassId} {lo hi k : Nat} {h : Nat → pm_C} {q : Nat × va_E} (hq : (pm_W dA lo hi h)[k]? = some q) : ∃ a, lo ≤ a ∧ a < hi ∧ k = a - lo ∧ q = (a, pm_E dA (h a)) := by
  have hk : k < hi - lo := by
    have := (List.getElem?_eq_some_iff.mp hq).1
    simpa [pm_W] using this
  have := pm_W_get (dA := dA) (h := h) (show lo ≤ lo + k by omega) (show lo + k < hi by omega)
  rw [show lo + k - lo = k by omega, hq] at this
  exact ⟨lo + k, by omega, by omega, by omega, Option.some.inj this⟩
theorem pm_W_len {dA : Nat → ClassId} {lo hi : Nat} {h : Nat → pm_C} : (pm_W dA lo hi h).length = hi - lo := by simp [pm_W]
theorem pm_W_set {dA : Nat → ClassId} {lo hi a : Nat} {h : Nat → pm_C} {c : pm_C} (h1 : lo ≤ a) (h2 : a < hi) : (pm_W dA lo hi h).set (a - lo) (a, pm_E dA c) = pm_W dA lo hi (pu h a c) := by
  apply List.ext_getElem?
  intro k
  rw [List.getElem?_set]
  by_cases hk : a - lo = k
  · rw [if_pos hk, ← hk, pm_W_get h1 h2, if_pos (by rw [pm_W_len]; omega)]
    simp [pu]
  · rw [if_neg hk]
    by_cases hl : k < hi - lo
    · have e1 := pm_W_get (dA := dA) (h := h) (show lo ≤ lo + k by omega) (show lo + k < hi by omega)
      have e2 := pm_W_get (dA := dA) (h := pu h a c) (show lo ≤ lo + k by omega) (show lo + k < hi by omega)
      rw [show lo + k - lo = k by omega] at e1 e2
      rw [e1, e2, pu, if_neg (by omega)]
    · rw [List.getElem?_eq_none (by rw [pm_W_len]; omega), List.getElem?_eq_none (by rw [pm_W_len]; omega)]
theorem pm_W_push {dA : Nat → ClassId} {lo hi : Nat} {h : Nat → pm_C} {c : pm_C} (h1 : lo ≤ hi) : pm_W dA lo hi h ++ [(hi, pm_E dA c)] = pm_W dA lo (hi + 1) (pu h hi c) := by
  apply List.ext_getElem?
  intro k
  by_cases hl : k < hi - lo
  · have e1 := pm_W_get (dA := dA) (h := h) (show lo ≤ lo + k by omega) (show lo + k < hi by omega)
    have e2 := pm_W_get (dA := dA) (h := pu h hi c) (show lo ≤ lo + k by omega) (show lo + k < hi + 1 by omega)
    rw [show lo + k - lo = k by omega] at e1 e2
    rw [List.getElem?_append_left (by rw [pm_W_len]; exact hl), e1, e2, pu, if_neg (by omega)]
  · by_cases he : k = hi - lo
    · subst he
      have e2 := pm_W_get (dA := dA) (h := pu h hi c) h1 (show hi < hi + 1 by omega)
      rw [List.getElem?_append_right (by rw [pm_W_len]; omega), e2, pm_W_len]
      simp [pu]
    · rw [List.getElem?_eq_none (by rw [List.length_append, pm_W_len]; simp; omega), List.getElem?_eq_none (by rw [pm_W_len]; omega)]
theorem pm_W_D {dA : Nat → ClassId} {lo hi : Nat} {h : Nat → pm_C} : va_D (fun q => lo ≤ q) (pm_W dA lo hi h) := by
  refine ⟨fun i j x y hx hy hxy => ?_, fun k q hk => ?_⟩
  · obtain ⟨a, a1, a2, a3, rfl⟩ := pm_W_at hx
    obtain ⟨b, b1, b2, b3, rfl⟩ := pm_W_at hy
    have : a = b := hxy
    omega
  · obtain ⟨a, a1, a2, a3, rfl⟩ := pm_W_at hk
    exact a1
/-- the heap H holds S -/
def pm_H (D : va_G) (cl : List vw_C) (dA : Nat → ClassId) (U : State) (S : pm_S) (H : Heap) : Prop :=
  H.size = ps_hi S ∧ ps_lo S ≤ ps_hi S ∧ va_P D cl (pm_W dA (ps_lo S) (ps_hi S) (ps_h S)) H ∧ ∀ (a n : Nat) (f : Nat → Int32), ps_h S a = .inl (6, n, .inl f) → a < ps_lo S ∧ va_X a n f U H
theorem pm_H.moved {D : va_G} {cl : List vw_C} {dA : Nat → ClassId} {u U : State} {S : pm_S} {H : Heap} (hvm : u.vm.Alike U.vm) (h : pm_H D cl dA u S H) : pm_H D cl dA U S H :=
  ⟨h.1, h.2.1, h.2.2.1, fun a n f e => ⟨(h.2.2.2 a n f e).1, (h.2.2.2 a n f e).2.moved hvm⟩⟩
theorem pm_my_iff {S : pm_S} {a : Nat} : pm_my S a = true ↔ ps_lo S ≤ a ∧ a < ps_hi S := by simp [pm_my]
/-- behind a store into our cell a -/
theorem pm_H.wr {D : va_G} {cl : List vw_C} {dA : Nat → ClassId} {U : State} {S : pm_S} {H H1 : Heap} {a : Nat} {c : pm_C} (h : pm_H D cl dA U S H) (h1 : ps_lo S ≤ a) (h2 : a < ps_hi S) (hc : ∀ (n : Nat) (f : Nat → Int32), c ≠ .inl (6, n, .inl f))
    (z : ps_hi S = H1.size) (hP : va_P D cl ((pm_W dA (ps_lo S) (ps_hi S) (ps_h S)).set (a - ps_lo S) (a, pm_E dA c)) H1) (ho : ∀ q, q < ps_lo S → H1[q]? = H[q]?) : pm_H D cl dA U (pm_wr S a c) H1 := by
  rw [pm_W_set h1 h2] at hP
  refine ⟨z.symm, h.2.1, hP, fun b n f e => ?_⟩
  have e : pu (ps_h S) a c b = .inl (6, n, .inl f) := e
  by_cases hb : b = a
  · rw [pu, if_pos hb] at e
    exact absurd e (hc n f)
  · rw [pu, if_neg hb] at e
    obtain ⟨g1, g2⟩ := h.2.2.2 b n f e
    exact ⟨g1, g2.kept (ho b g1)⟩
theorem pm_H.al {D : va_G} {cl : List vw_C} {dA : Nat → ClassId} {U : State} {S : pm_S} {H H1 : Heap} {n : Nat} {c : pm_C} (h : pm_H D cl dA U S H) (hc : ∀ (n : Nat) (f : Nat → Int32), c ≠ .inl (6, n, .inl f))
    (z : H1.size = ps_hi S + 1) (hP : va_P D cl (pm_W dA (ps_lo S) (ps_hi S) (ps_h S) ++ [(ps_hi S, pm_E dA c)]) H1) (ho : ∀ q, q < ps_hi S → H1[q]? = H[q]?) : pm_H D cl dA U (pm_al S n c) H1 := by
  rw [pm_W_push h.2.1] at hP
  refine ⟨z, Nat.le_succ_of_le h.2.1, hP, fun b n f e => ?_⟩
  have e : pu (ps_h S) (ps_hi S) c b = .inl (6, n, .inl f) := e
  by_cases hb : b = ps_hi S
  · rw [pu, if_pos hb] at e
    exact absurd e (hc n f)
  · rw [pu, if_neg hb] at e
    obtain ⟨g1, g2⟩ := h.2.2.2 b n f e
    exact ⟨g1, g2.kept (ho b (Nat.lt_of_lt_of_le g1 h.2.1))⟩
theorem lget_has {ls : Array Slot} {nL : Nat} {l : pm_L} {i : Nat} {v : Value} (h : lv_has ls nL l) (hg : lget l i = some v) : ls[i]? = some (.val v) := by
  unfold lget at hg
  cases hf : l.find? (fun q => q.1 == i) with
  | none => rw [hf] at hg; cases hg
  | some q =>
    rw [hf] at hg
    have h1 := List.mem_of_find?_eq_some hf
    have h2 := List.find?_some hf
    simp only [beq_iff_eq] at h2
    cases hg
    have := h.2.2 q h1
    rw [← h2]
    exact this
