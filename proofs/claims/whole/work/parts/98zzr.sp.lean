/-- what is given of Law.cable -/
def spL (N : Nat) : pm_I → List Value → pm_S → pm_O → Prop := fun mj As S out => mj = mi_Law_cable ∧ ∃ a p0 p1 p2 o r, As = [.ref a, .int p0, .int p1, .int p2, .ref o] ∧ cabF N S a p0 p1 p2 o = some r ∧ out = (some (.int r.1), r.2)
theorem spL_c {N : Nat} : ∀ S a p0 p1 p2 o r, cabF N S a p0 p1 p2 o = some r → spL N mi_Law_cable [.ref a, .int p0, .int p1, .int p2, .ref o] S (some (.int r.1), r.2) := fun S a p0 p1 p2 o r h => ⟨rfl, a, p0, p1, p2, o, r, rfl, h, rfl⟩
theorem sJ_mono {S S' : pm_S} {a : Nat} {i : Int32} {x : Int64} (h : sJ S a i x = some S') : ps_lo S' = ps_lo S ∧ ps_hi S' = ps_hi S ∧ ps_z S' = ps_z S := by
  unfold sJ at h
  split at h
  · split at h
    · cases h
      exact ⟨rfl, rfl, rfl⟩
    · cases h
  · cases h
theorem spL_mono {N : Nat} : pm_mono (spL N) := by
  intro mj As S out h
  obtain ⟨_, a, p0, p1, p2, o, r, _, hc, rfl⟩ := h
  unfold cabF at hc
  by_cases c : thrC N S a p0 p1 p2
  · rw [if_pos c] at hc
    cases hc
    exact ⟨rfl, Nat.le_succ _, Nat.le_add_right _ _⟩
  · rw [if_neg c] at hc
    obtain ⟨r1, h1, hc⟩ := obind hc
    obtain ⟨S2, h2, hc⟩ := obind hc
    cases hc
    have m1 := pm_rel_mono (G := pG) (sp := fun _ _ _ _ => False) (fun _ _ _ _ h => h.elim) _ _ _ _ _ (f_BP_cable (fun _ _ _ _ => False) 0 N S a p0 p1 p2 r1 h1)
    obtain ⟨e1, e2, e3⟩ := sJ_mono h2
    dsimp only at m1 ⊢
    rw [e1, e2, e3]
    exact m1
theorem callL {N : Nat} {l : Launch} : ∀ d mj As S out, pm_rel pG (spL N) d mj As S out → (lg_sl As).length ≤ pi_L mj → pm_MOk pt_Ts pt_cn mj → pm_Met pt_cl pt_Ts tables_1 l mj d As S out := pm_sound pG_ok spL_mono (fun mi idx mj h => no_8 h) (fun d mi As S out h hl hm => absurd (by rw [h.1]; rfl) (mok12 hm))
theorem callL_mono {N d : Nat} : pm_mono (pm_rel pG (spL N) d) := pm_rel_mono spL_mono d
