/-- iinc by any number -/
theorem pE_iinc {G : pm_G} {call : pm_I → List Value → pm_S → pm_O → Prop} {mi : pm_I} {pc k : Nat} {n : Int} {ls ls' : pm_L} {st : List Value} {S : pm_S} {out : pm_O} {x y : Int32} (hi : pm_at mi pc = some (.iinc k n)) (hg : lget ls k = some (.int x)) (hk : k < pi_L mi) (hy : Int32.ofInt n = y) (hls : lst1 ls k (.int (x + y)) = ls') (e : pmE G call mi (pc + 3) ls' st S out) : pmE G call mi pc ls st S out := by
  subst hls
  subst hy
  refine pE_nx hi ?_ e
  show (match lget ls k with
    | some (.int x) => if k < pi_L mi then pm_nx (pc + 3) (lst1 ls k (.int (x + Int32.ofInt n))) st S else none
    | _ => none) = _
  rw [hg]
  dsimp only
  rw [if_pos hk]
  rfl
