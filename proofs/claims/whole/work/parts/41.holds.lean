/-! ===== what holds between the pure machine's heap and the machine's ===== -/
def pm_E (dA : Nat → ClassId) (c : pm_C) : va_E := match c with
  | .inl (t, x) => .inl (dA t, x)
  | .inr o => .inr o
def pm_tys (dA : Nat → ClassId) : List (ClassId × FieldType) := [(dA 0, .int), (dA 1, .long), (dA 2, .byte), (dA 3, .boolean), (dA 4, .object "BuriedPairs$Plan"), (dA 5, .array .int)]
/-- a cell of which nothing is known -/
def pm_g (c : pm_C) : Bool := match c with
  | .inl (t, _) => decide (t = 9)
  | .inr _ => false
/-- the heap H holds S -/
def pm_H (D : va_G) (cl : List vw_C) (dA : Nat → ClassId) (U : State) (S : pm_S) (H : Heap) : Prop :=
  H.size = ps_hi S ∧ ps_lo S ≤ ps_hi S ∧ (∀ a, ps_lo S ≤ a → a < ps_hi S → pm_g (ps_h S a) = false → va_at D cl (a, pm_E dA (ps_h S a)) H) ∧ ∀ (a n : Nat) (f : Nat → Int32), ps_h S a = .inl (6, n, .inl f) → a < ps_lo S ∧ va_X a n f U H
theorem pm_H.moved {D : va_G} {cl : List vw_C} {dA : Nat → ClassId} {u U : State} {S : pm_S} {H : Heap} (hvm : u.vm.Alike U.vm) (h : pm_H D cl dA u S H) : pm_H D cl dA U S H :=
  ⟨h.1, h.2.1, h.2.2.1, fun a n f e => ⟨(h.2.2.2 a n f e).1, (h.2.2.2 a n f e).2.moved hvm⟩⟩
theorem pm_my_iff {S : pm_S} {a : Nat} : pm_my S a = true ↔ ps_lo S ≤ a ∧ a < ps_hi S := by simp [pm_my]
theorem pm_H.al {D : va_G} {cl : List vw_C} {dA : Nat → ClassId} {U : State} {S : pm_S} {H H1 : Heap} {n : Nat} {c : pm_C} (h : pm_H D cl dA U S H) (hc : ∀ (n : Nat) (f : Nat → Int32), c ≠ .inl (6, n, .inl f))
    (z : H1.size = ps_hi S + 1) (he : pm_g c = false → va_at D cl (ps_hi S, pm_E dA c) H1) (ho : ∀ q, q < ps_hi S → H1[q]? = H[q]?) : pm_H D cl dA U (pm_al S n c) H1 := by
  refine ⟨z, Nat.le_succ_of_le h.2.1, fun b b1 b2 hg => ?_, fun b n f e => ?_⟩
  · have b2 : b < ps_hi S + 1 := b2
    show va_at D cl (b, pm_E dA (pu (ps_h S) (ps_hi S) c b)) H1
    have hg : pm_g (pu (ps_h S) (ps_hi S) c b) = false := hg
    by_cases hb : b = ps_hi S
    · subst hb
      rw [pu, if_pos rfl] at hg ⊢
      exact he hg
    · rw [pu, if_neg hb] at hg ⊢
      exact (h.2.2.1 b b1 (by omega) hg).kept (ho b (by omega))
  · have e : pu (ps_h S) (ps_hi S) c b = .inl (6, n, .inl f) := e
    by_cases hb : b = ps_hi S
    · rw [pu, if_pos hb] at e
      exact absurd e (hc n f)
    · rw [pu, if_neg hb] at e
      obtain ⟨g1, g2⟩ := h.2.2.2 b n f e
      exact ⟨g1, g2.kept (ho b (Nat.lt_of_lt_of_le g1 h.2.1))⟩
/-- the machine's locals hold l -/
def pm_lv (ls : Array Slot) (nL : Nat) (l : pm_L) : Prop := ls.size = nL ∧ lv_wf ls ∧ ∀ (i : Nat) (v : Value), lget l i = some v → ls[i]? = some (.val v)
theorem lget_has {ls : Array Slot} {nL : Nat} {l : pm_L} {i : Nat} {v : Value} (h : pm_lv ls nL l) (hg : lget l i = some v) : ls[i]? = some (.val v) := h.2.2 i v hg
/-- the same as a list of places and values -/
def pm_asc (l : pm_L) : List (Nat × Value) := (List.range l.length).filterMap (fun i => (lget l i).map (fun v => (i, v)))
theorem pm_asc_mem {l : pm_L} {i : Nat} {v : Value} : (i, v) ∈ pm_asc l ↔ lget l i = some v := by
  unfold pm_asc
  rw [List.mem_filterMap]
  constructor
  · rintro ⟨j, -, hj⟩
    cases hg : lget l j with
    | none => rw [hg] at hj; cases hj
    | some w => rw [hg] at hj; cases hj; exact hg
  · intro hg
    refine ⟨i, List.mem_range.mpr ?_, by rw [hg]; rfl⟩
    rcases Nat.lt_or_ge i l.length with h | h
    · exact h
    · unfold lget at hg
      rw [List.getD_eq_getElem?_getD, List.getElem?_eq_none h] at hg
      cases hg
theorem pm_lv.has {ls : Array Slot} {nL : Nat} {l : pm_L} (h : pm_lv ls nL l) : lv_has ls nL (pm_asc l) := ⟨h.1, h.2.1, fun q hq => h.2.2 q.1 q.2 (pm_asc_mem.mp hq)⟩
theorem lget_set {l : pm_L} {i j : Nat} {v : Option Value} : lget (l.set i v) j = if i = j ∧ i < l.length then v else lget l j := by
  unfold lget
  rw [List.getD_eq_getElem?_getD, List.getElem?_set, List.getD_eq_getElem?_getD]
  by_cases h : i = j
  · subst h
    by_cases h2 : i < l.length
    · simp [h2]
    · simp [h2]
  · simp [h]
theorem lget_cut {l : pm_L} {i j : Nat} {v : Value} (h : lget (lcut l i) j = some v) : lget l j = some v ∧ ¬ (j + 1 = i ∧ v.category = 2) := by
  unfold lcut at h
  split at h
  · exact ⟨h, fun z => by omega⟩
  · rename_i k
    split at h
    · rename_i w hw
      split at h
      · rename_i hc
        rw [lget_set] at h
        split at h
        · cases h
        · rename_i hn
          refine ⟨h, fun z => ?_⟩
          have hjk : k = j := by omega
          refine hn ⟨hjk, ?_⟩
          rcases Nat.lt_or_ge k l.length with q | q
          · exact q
          · rw [List.getD_eq_getElem?_getD, List.getElem?_eq_none q] at hw
            cases hw
      · rename_i hc
        refine ⟨h, fun z => hc ?_⟩
        have hjk : k = j := by omega
        subst hjk
        have : lget l k = some w := hw
        rw [this] at h
        cases h
        exact z.2
    · rename_i hw
      refine ⟨h, fun z => ?_⟩
      have hjk : k = j := by omega
      subst hjk
      have : lget l k = none := hw
      rw [this] at h
      cases h
theorem pm_lv.st1 {ls ls' : Array Slot} {nL i : Nat} {l : pm_L} {v : Value} (h' : lv_has ls' nL ((i, v) :: (pm_asc l).filter (fun q => !(q.1 == i) && !(q.1 + 1 == i && q.2.category == 2)))) : pm_lv ls' nL (lst1 l i v) := by
  refine ⟨h'.1, h'.2.1, fun j w hj => ?_⟩
  unfold lst1 at hj
  rw [lget_set] at hj
  split at hj
  · rename_i hij
    cases hj
    rw [← hij.1]
    exact h'.2.2 (i, v) List.mem_cons_self
  · rename_i hij
    obtain ⟨g1, g2⟩ := lget_cut hj
    by_cases hji : j = i
    · subst hji
      exfalso
      refine hij ⟨rfl, ?_⟩
      rcases Nat.lt_or_ge j (lcut l j).length with q | q
      · exact q
      · unfold lget at hj
        rw [List.getD_eq_getElem?_getD, List.getElem?_eq_none q] at hj
        cases hj
    · refine h'.2.2 (j, w) (List.mem_cons_of_mem _ (List.mem_filter.mpr ⟨pm_asc_mem.mpr g1, ?_⟩))
      simp only [Bool.and_eq_true, Bool.not_eq_true', beq_eq_false_iff_ne, ne_eq, Bool.and_eq_false_iff]
      refine ⟨hji, ?_⟩
      by_cases q : j + 1 = i
      · exact Or.inr (fun z => g2 ⟨q, z⟩)
      · exact Or.inl q
theorem pm_lv.st2 {ls ls' : Array Slot} {nL i : Nat} {l : pm_L} {v : Value} (h' : lv_has ls' nL ((i, v) :: (pm_asc l).filter (fun q => !(q.1 == i) && (!(q.1 == i + 1) && !(q.1 + 1 == i && q.2.category == 2))))) : pm_lv ls' nL (lst2 l i v) := by
  refine ⟨h'.1, h'.2.1, fun j w hj => ?_⟩
  unfold lst2 at hj
  rw [lget_set] at hj
  split at hj
  · cases hj
  · rename_i hi1
    have hj0 := hj
    rw [lget_set] at hj
    split at hj
    · rename_i hij
      cases hj
      rw [← hij.1]
      exact h'.2.2 (i, v) List.mem_cons_self
    · rename_i hij
      obtain ⟨g1, g2⟩ := lget_cut hj
      have hlen : ∀ k, lget (lcut l i) k = some w → k < (lcut l i).length := fun k hk => by
        rcases Nat.lt_or_ge k (lcut l i).length with q | q
        · exact q
        · unfold lget at hk
          rw [List.getD_eq_getElem?_getD, List.getElem?_eq_none q] at hk
          cases hk
      have hji : j ≠ i := fun z => hij ⟨z.symm, z ▸ hlen j hj⟩
      have hji1 : j ≠ i + 1 := fun z => hi1 ⟨z.symm, by rw [List.length_set]; exact z ▸ hlen j hj⟩
      refine h'.2.2 (j, w) (List.mem_cons_of_mem _ (List.mem_filter.mpr ⟨pm_asc_mem.mpr g1, ?_⟩))
      simp only [Bool.and_eq_true, Bool.not_eq_true', beq_eq_false_iff_ne, ne_eq, Bool.and_eq_false_iff]
      refine ⟨hji, hji1, ?_⟩
      by_cases q : j + 1 = i
      · exact Or.inr (fun z => g2 ⟨q, z⟩)
      · exact Or.inl q
theorem lent_args (As : List Value) : ∀ (i0 : Nat) (n j : Nat) (v : Value), (As.flatMap lslot ++ List.replicate n none)[j]? = some (some v) → (i0 + j, v) ∈ lv_args i0 As := by
  induction As with
  | nil =>
    intro i0 n j v h
    simp only [List.flatMap_nil, List.nil_append, List.getElem?_replicate] at h
    split at h <;> cases h
  | cons a As ih =>
    intro i0 n j v h
    unfold lv_args
    rw [List.flatMap_cons, List.append_assoc] at h
    by_cases hc : a.category = 2
    · rw [lslot, if_pos hc] at h
      rw [if_pos hc]
      match j, h with
      | 0, h => cases h; exact List.mem_cons_self
      | 1, h => cases h
      | j + 2, h =>
        have := ih (i0 + 2) n j v h
        rw [show i0 + (j + 2) = i0 + 2 + j by omega]
        exact List.mem_cons_of_mem _ this
    · rw [lslot, if_neg hc] at h
      rw [if_neg hc]
      match j, h with
      | 0, h => cases h; exact List.mem_cons_self
      | j + 1, h =>
        have := ih (i0 + 1) n j v h
        rw [show i0 + (j + 1) = i0 + 1 + j by omega]
        exact List.mem_cons_of_mem _ this
theorem lent_ok {ls : Array Slot} {n : Nat} {As : List Value} (h : lv_has ls n (lv_args 0 As)) : pm_lv ls n (lent n As) := by
  refine ⟨h.1, h.2.1, fun i v hv => ?_⟩
  unfold lget lent at hv
  rw [List.getD_eq_getElem?_getD] at hv
  have h2 : (As.flatMap lslot ++ List.replicate (n - (As.flatMap lslot).length) none)[i]? = some (some v) := by
    cases hx : (As.flatMap lslot ++ List.replicate (n - (As.flatMap lslot).length) none)[i]? with
    | none => rw [hx] at hv; cases hv
    | some w => rw [hx] at hv; simp only [Option.getD_some] at hv; rw [hv]
  have := lent_args As 0 _ i v h2
  rw [Nat.zero_add] at this
  exact h.2.2 (i, v) this
