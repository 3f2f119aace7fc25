/-! ===== the law's entry ===== -/
def hS0 (b L : Nat) (xs : Nat → Int32) : Nat → pm_C := fun a => if a = b then .inl (6, L, .inl xs) else .inl (9, 0, .inl (fun _ => 0))
section ENT
variable {b L B : Nat} {xs : Nat → Int32} {s0 : mst}
theorem hS0_SC (hb : b < B) (hL : L ≤ 4608) : SC (hS0 b L xs) B b L xs := ⟨hb, hL, if_pos rfl⟩
theorem pm_H0 {D : va_G} {cl : List vw_C} {dA : Nat → ClassId} {U : State} {H : Heap} (hX : va_X b L xs U H) (hb : b < H.size) : pm_H D cl dA U (mkM (hS0 b L xs) H.size (fun _ => .inl (9, 0)) 0 0 s0) H := by
  refine ⟨rfl, Nat.le_refl _, fun a a1 a2 => ?_, fun a n f e => ?_⟩
  · have a1 : H.size ≤ a := a1
    have a2 : a < H.size + 0 := a2
    omega
  · have e : (if a < H.size then hS0 b L xs a else tC H.size (.inl (9, 0)) (s0.1 (a - H.size)) (s0.2 (a - H.size))) = .inl (6, n, .inl f) := e
    by_cases c : a < H.size
    · rw [if_pos c] at e
      unfold hS0 at e
      by_cases d : a = b
      · rw [if_pos d] at e
        have e2 := Sum.inl.inj e
        have e3 := congrArg Prod.fst (congrArg Prod.snd e2)
        have e4 := Sum.inl.inj (congrArg Prod.snd (congrArg Prod.snd e2))
        dsimp only at e3 e4
        subst d
        rw [← e3, ← e4]
        exact ⟨c, hX⟩
      · rw [if_neg d] at e
        have e2 := congrArg Prod.fst (Sum.inl.inj e)
        exact absurd (show (9 : Nat) = 6 from e2) (by decide)
    · rw [if_neg c] at e
      have e : (Sum.inl (9, 0, tA H.size 9 (s0.1 (a - H.size)) (s0.2 (a - H.size))) : pm_C) = .inl (6, n, .inl f) := e
      have e2 := congrArg Prod.fst (Sum.inl.inj e)
      exact absurd (show (9 : Nat) = 6 from e2) (by decide)
end ENT
