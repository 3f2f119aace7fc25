/-! ===== what holds between the pure machine's heap and the machine's ===== -/
def pm_E (dA : Nat → ClassId) (c : pm_C) : va_E := match c with
  | .inl (t, x) => .inl (dA t, x)
  | .inr o => .inr o
def pm_tys (dA : Nat → ClassId) : List (ClassId × FieldType) := [(dA 0, .int), (dA 1, .long), (dA 2, .byte), (dA 3, .boolean), (dA 4, .object "BuriedPairs$Plan"), (dA 5, .array .int)]
/-- a cell of which nothing is known -/
def pm_g (c : pm_C) : Bool := match c with
  | .inl (t, _) => decide (t = 9)
  | .inr _ => false
/-- the heap H holds S -/
def pm_H (D : va_G) (cl : List vw_C) (dA : Nat → ClassId) (U : State) (S : pm_S) (H : Heap) : Prop :=
  H.size = ps_hi S ∧ ps_lo S ≤ ps_hi S ∧ (∀ a, ps_lo S ≤ a → a < ps_hi S → pm_g (ps_h S a) = false → va_at D cl (a, pm_E dA (ps_h S a)) H) ∧ ∀ (a n : Nat) (f : Nat → Int32), ps_h S a = .inl (6, n, .inl f) → a < ps_lo S ∧ va_X a n f U H
theorem pm_H.moved {D : va_G} {cl : List vw_C} {dA : Nat → ClassId} {u U : State} {S : pm_S} {H : Heap} (hvm : u.vm.Alike U.vm) (h : pm_H D cl dA u S H) : pm_H D cl dA U S H :=
  ⟨h.1, h.2.1, h.2.2.1, fun a n f e => ⟨(h.2.2.2 a n f e).1, (h.2.2.2 a n f e).2.moved hvm⟩⟩
theorem pm_my_iff {S : pm_S} {a : Nat} : pm_my S a = true ↔ ps_lo S ≤ a ∧ a < ps_hi S := by simp [pm_my]
theorem pm_H.al {D : va_G} {cl : List vw_C} {dA : Nat → ClassId} {U : State} {S : pm_S} {H H1 : Heap} {n : Nat} {c : pm_C} (h : pm_H D cl dA U S H) (hc : ∀ (n : Nat) (f : Nat → Int32), c ≠ .inl (6, n, .inl f))
    (z : H1.size = ps_hi S + 1) (he : pm_g c = false → va_at D cl (ps_hi S, pm_E dA c) H1) (ho : ∀ q, q < ps_hi S → H1[q]? = H[q]?) : pm_H D cl dA U (pm_al S n c) H1 := by
  refine ⟨z, Nat.le_succ_of_le h.2.1, fun b b1 b2 hg => ?_, fun b n f e => ?_⟩
  · have b2 : b < ps_hi S + 1 := b2
    show va_at D cl (b, pm_E dA (pu (ps_h S) (ps_hi S) c b)) H1
    have hg : pm_g (pu (ps_h S) (ps_hi S) c b) = false := hg
    by_cases hb : b = ps_hi S
    · subst hb
      rw [pu, if_pos rfl] at hg ⊢
      exact he hg
    · rw [pu, if_neg hb] at hg ⊢
      exact (h.2.2.1 b b1 (by omega) hg).kept (ho b (by omega))
  · have e : pu (ps_h S) (ps_hi S) c b = .inl (6, n, .inl f) := e
    by_cases hb : b = ps_hi S
    · rw [pu, if_pos hb] at e
      exact absurd e (hc n f)
    · rw [pu, if_neg hb] at e
      obtain ⟨g1, g2⟩ := h.2.2.2 b n f e
      exact ⟨g1, g2.kept (ho b (Nat.lt_of_lt_of_le g1 h.2.1))⟩
theorem lget_has {ls : Array Slot} {nL : Nat} {l : pm_L} {i : Nat} {v : Value} (h : lv_has ls nL l) (hg : lget l i = some v) : ls[i]? = some (.val v) := by
  unfold lget at hg
  cases hf : l.find? (fun q => q.1 == i) with
  | none => rw [hf] at hg; cases hg
  | some q =>
    rw [hf] at hg
    have h1 := List.mem_of_find?_eq_some hf
    have h2 := List.find?_some hf
    simp only [beq_iff_eq] at h2
    cases hg
    have := h.2.2 q h1
    rw [← h2]
    exact this
