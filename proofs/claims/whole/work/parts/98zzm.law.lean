/-! ===== the law answers 1 ===== -/
section LOK
variable {h0 : Nat → pm_C} {B : Nat} {D : Nat → pd} {s : mst} {N b L : Nat} {xs : Nat → Int32}
theorem IAX_room {eb hi z : Nat} (h : IAX eb D hi z s) : hi ≤ 436 + eb ∧ z ≤ 200000 + 6 * eb := by
  obtain ⟨ow, np, As, Ps, P, L', bt, h⟩ := h
  have := h.2.2.2
  unfold RM at this
  omega
theorem law_ok (hN : 2000 ≤ N) (hsc : SC h0 B b L xs) : ∃ D' hi' z' s', F_Law_law (cabF N) N (mkM h0 B D 0 0 s) b = some (1, mkM h0 B D' hi' z' s') ∧ hi' ≤ 1000 ∧ z' ≤ 300000 := by
  obtain ⟨D1, s1, D2, s2, e1, e2, g⟩ := i_all (h0 := h0) (B := B) (D := D) (s := s) (N := N) (by omega)
  have hL := hsc.2.1
  obtain ⟨f, hf⟩ : ∃ f, N = f + 1 := ⟨N - 1, by omega⟩
  obtain ⟨D', hi', z', s', eb', e3, g3, hb⟩ := law_lp hN hsc f 0 0 _ _ _ _ (by omega) (by omega) (by omega) g
  have r := IAX_room g3
  refine ⟨D', hi', z', s', ?_, by omega, by omega⟩
  unfold F_Law_law
  rw [al_mk o_bp, Option.bind_some]
  dsimp only
  rw [e1, Option.bind_some, al_mk o_mod, Option.bind_some]
  dsimp only
  rw [e2, Option.bind_some, show (1 : Int32) = nI 1 from rfl, nL_ar (by decide), Option.bind_some]
  dsimp only
  rw [← hf] at e3
  exact e3
end LOK
