/-! ===== calls of the law ===== -/
def nol (w : Cond) : Bool := match w with
  | .code y _ _ _ => decide (y.cls ≠ "BuriedPairsLaw")
  | _ => true
set_option maxRecDepth 100000 in
theorem nol_ok : lw_tbl.all nol = true := by decide +kernel
theorem mok12 {mi : pm_I} (h : pm_MOk pt_Ts pt_cn mi) : pi_co mi ≠ 12 := by
  intro e
  have h1 := h.1
  have h6 : pt_cn (pi_co mi) = (pi_y mi).cls := h.2.2.2.2.2.1
  have h2 := List.all_eq_true.mp nol_ok _ (List.mem_filter.mp h1).1
  have h3 : decide ((pi_y mi).cls ≠ "BuriedPairsLaw") = true := h2
  rw [e] at h6
  exact (of_decide_eq_true h3) (h6.symm.trans rfl)
set_option maxRecDepth 100000 in
theorem ml_8 : ∀ co, co ≠ 12 → (pt_ml co).all (fun e => decide (e.2.2 ≠ 8)) = true := by
  intro co h
  match co, h with
  | 0, _ => rfl
  | 1, _ => rfl
  | 2, _ => rfl
  | 3, _ => rfl
  | 4, _ => rfl
  | 5, _ => rfl
  | 6, _ => rfl
  | 7, _ => rfl
  | 8, _ => rfl
  | 9, _ => rfl
  | 10, _ => rfl
  | 11, _ => rfl
  | 12, h => exact absurd rfl h
  | n + 13, _ => rfl
theorem no_8 {mi : pm_I} {idx : Nat} {mj : pm_I} (h : pm_MOk pt_Ts pt_cn mi) : pg_m pG (pi_co mi) idx ≠ some (mj, 8) := by
  intro e
  have h1 := ml_8 _ (mok12 h)
  have e : pt_lk (pt_ml (pi_co mi)) idx = some (mj, 8) := e
  obtain ⟨q, hq, e2⟩ : ∃ q ∈ pt_ml (pi_co mi), q.2 = (mj, 8) := by
    unfold pt_lk at e
    obtain ⟨q, h2, h3⟩ := Option.map_eq_some_iff.mp e
    exact ⟨q, List.mem_of_find?_eq_some h2, h3⟩
  have h4 := of_decide_eq_true (List.all_eq_true.mp h1 q hq)
  rw [e2] at h4
  exact h4 rfl
