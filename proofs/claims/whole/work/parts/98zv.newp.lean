section NWP
variable {h0 : Nat → pm_C} {B : Nat} {D : Nat → pd} {hi z : Nat} {s : mst} {N K j n t ci : Nat} {fl : List (Nat × Nat)} {α : Type}
/-- an array is made and put into a field -/
theorem st_ar {ty : FieldType} {cont : pm_S → Option α} (ht : t = 0 ∨ t = 2 ∨ t = 3) (hn : n ≤ 65536) (hK : K < hi) (hD : D K = .inr (ci, fl)) (hj : j < fl.length) (hf : ∀ q, pm_fit ty (.ref q) = true) : ((nA (mkM h0 B D hi z s) t (nI n)).bind fun (q2, S3) => (wF S3 (B + K) ci j ty (.ref q2)).bind cont) = cont (mkM h0 B (upD (upD D hi (.inl (t, n))) K (.inr (ci, fl.set j (1, hi)))) (hi + 1) (z + n) (up1 s.1 hi (fun _ => 0), s.2)) := by
  rw [nI_ar ht hn, Option.bind_some]
  dsimp only
  rw [wN_mk (by omega) (by rw [upD_n (by omega)]; exact hD) hj (hf _), Option.bind_some]
theorem st_aq {ty : FieldType} {cont : pm_S → Option α} (ht : t = 4 ∨ t = 5) (hn : n ≤ 65536) (hK : K < hi) (hD : D K = .inr (ci, fl)) (hj : j < fl.length) (hf : ∀ q, pm_fit ty (.ref q) = true) : ((nA (mkM h0 B D hi z s) t (nI n)).bind fun (q2, S3) => (wF S3 (B + K) ci j ty (.ref q2)).bind cont) = cont (mkM h0 B (upD (upD D hi (.inl (t, n))) K (.inr (ci, fl.set j (1, hi)))) (hi + 1) (z + n) (up1 s.1 hi (fun _ => -1), s.2)) := by
  rw [nQ_ar ht hn, Option.bind_some]
  dsimp only
  rw [wN_mk (by omega) (by rw [upD_n (by omega)]; exact hD) hj (hf _), Option.bind_some]
theorem new_lay (hN : 1000 ≤ N) : ∃ D' s', F_Layout_init N (mkM h0 B (upD D hi (.inr (1, [(2, 0), (2, 0), (2, 0), (2, 0)]))) (hi + 1) (z + 4) (up1 s.1 hi (nuls (fun _ => true)), s.2)) (B + hi) = some (mkM h0 B D' (hi + 5) (z + 182) s') ∧ BEL D hi s D' (hi + 5) s' ∧ LT D' (hi + 5) hi ∧ CL s' hi (fun _ => 0, fun _ => 0) := by
  generalize hs1 : ((up1 s.1 hi (nuls (fun _ => true)), s.2) : mst) = s1
  generalize hD1 : upD D hi (.inr (1, [(2, 0), (2, 0), (2, 0), (2, 0)])) = D1
  have d1 : D1 hi = .inr (1, [(2, 0), (2, 0), (2, 0), (2, 0)]) := by rw [← hD1]; exact upD_s
  generalize hD2 : upD (upD D1 (hi + 1) (.inl (0, 56))) hi (.inr (1, [(1, hi + 1), (2, 0), (2, 0), (2, 0)])) = D2
  have d2 : D2 hi = .inr (1, [(1, hi + 1), (2, 0), (2, 0), (2, 0)]) := by rw [← hD2]; exact upD_s
  generalize hD3 : upD (upD D2 (hi + 1 + 1) (.inl (0, 56))) hi (.inr (1, [(1, hi + 1), (1, hi + 1 + 1), (2, 0), (2, 0)])) = D3
  have d3 : D3 hi = .inr (1, [(1, hi + 1), (1, hi + 1 + 1), (2, 0), (2, 0)]) := by rw [← hD3]; exact upD_s
  generalize hD4 : upD (upD D3 (hi + 1 + 1 + 1) (.inl (0, 56))) hi (.inr (1, [(1, hi + 1), (1, hi + 1 + 1), (1, hi + 1 + 1 + 1), (2, 0)])) = D4
  have d4 : D4 hi = .inr (1, [(1, hi + 1), (1, hi + 1 + 1), (1, hi + 1 + 1 + 1), (2, 0)]) := by rw [← hD4]; exact upD_s
  generalize hD5 : upD (upD D4 (hi + 1 + 1 + 1 + 1) (.inl (0, 10))) hi (.inr (1, [(1, hi + 1), (1, hi + 1 + 1), (1, hi + 1 + 1 + 1), (1, hi + 1 + 1 + 1 + 1)])) = D5
  have d5 : D5 hi = .inr (1, [(1, hi + 1), (1, hi + 2), (1, hi + 3), (1, hi + 4)]) := by rw [← hD5]; exact upD_s
  have a1 : D5 (hi + 1) = .inl (0, 56) := by rw [← hD5, upD_n (by omega), upD_n (by omega), ← hD4, upD_n (by omega), upD_n (by omega), ← hD3, upD_n (by omega), upD_n (by omega), ← hD2, upD_n (by omega), upD_s]
  have a2 : D5 (hi + 2) = .inl (0, 56) := by rw [← hD5, upD_n (by omega), upD_n (by omega), ← hD4, upD_n (by omega), upD_n (by omega), ← hD3, upD_n (by omega), upD_s]
  have a3 : D5 (hi + 3) = .inl (0, 56) := by rw [← hD5, upD_n (by omega), upD_n (by omega), ← hD4, upD_n (by omega), upD_s]
  have a4 : D5 (hi + 4) = .inl (0, 10) := by rw [← hD5, upD_n (by omega), upD_s]
  have ab : ∀ k, k < hi → D5 k = D k := fun k hk => by rw [← hD5, upD_n (by omega), upD_n (by omega), ← hD4, upD_n (by omega), upD_n (by omega), ← hD3, upD_n (by omega), upD_n (by omega), ← hD2, upD_n (by omega), upD_n (by omega), ← hD1, upD_n (by omega)]
  have hLT : LT D5 (hi + 5) hi := ⟨by omega, d5, ⟨by omega, a1, by decide⟩, ⟨by omega, a2, by decide⟩, ⟨by omega, a3, by decide⟩, ⟨by omega, a4, by decide⟩⟩
  generalize hs5 : ((up1 (up1 (up1 (up1 s1.1 (hi + 1) (fun _ => 0)) (hi + 1 + 1) (fun _ => 0)) (hi + 1 + 1 + 1) (fun _ => 0)) (hi + 1 + 1 + 1 + 1) (fun _ => 0), s1.2) : mst) = s5
  obtain ⟨s6, e6, m6, l6⟩ := c_lclear (N := N) (h0 := h0) (B := B) (D := D5) (hi := hi + 5) (z := z + 182) (s := s5) hN hLT
  have hr : rcv (mkM h0 B D1 (hi + 1) (z + 4) s1) (B + hi) 1 = true := rcv_mk (by omega) d1
  have hm2 : pm_my (mkM h0 B D1 (hi + 1) (z + 4) s1) (B + hi) = true := mk_my (by omega)
  refine ⟨D5, s6, ?_, ⟨by omega, fun k hk => ⟨ab k hk, ?_⟩, ?_⟩, hLT, l6⟩
  · unfold F_Layout_init
    rw [hr, if_pos rfl, hm2, if_pos rfl, L_56, L_10]
    refine (st_ar (Or.inl rfl) (by decide) (by omega) d1 (by decide) (fun _ => rfl)).trans ?_
    rw [show [(2, 0), (2, 0), (2, 0), (2, 0)].set 0 (1, hi + 1) = [(1, hi + 1), (2, 0), (2, 0), (2, 0)] from rfl, hD2]
    refine (st_ar (Or.inl rfl) (by decide) (by omega) d2 (by simp) (fun _ => rfl)).trans ?_
    rw [show [(1, hi + 1), (2, 0), (2, 0), (2, 0)].set 1 (1, hi + 1 + 1) = [(1, hi + 1), (1, hi + 1 + 1), (2, 0), (2, 0)] from rfl, hD3]
    refine (st_ar (Or.inl rfl) (by decide) (by omega) d3 (by simp) (fun _ => rfl)).trans ?_
    rw [show [(1, hi + 1), (1, hi + 1 + 1), (2, 0), (2, 0)].set 2 (1, hi + 1 + 1 + 1) = [(1, hi + 1), (1, hi + 1 + 1), (1, hi + 1 + 1 + 1), (2, 0)] from rfl, hD4]
    refine (st_ar (Or.inl rfl) (by decide) (by omega) d4 (by simp) (fun _ => rfl)).trans ?_
    rw [show [(1, hi + 1), (1, hi + 1 + 1), (1, hi + 1 + 1 + 1), (2, 0)].set 3 (1, hi + 1 + 1 + 1 + 1) = [(1, hi + 1), (1, hi + 1 + 1), (1, hi + 1 + 1 + 1), (1, hi + 1 + 1 + 1 + 1)] from rfl, hD5]
    dsimp only
    rw [hs5]
    have hr5 : rcv (mkM h0 B D5 (hi + 5) (z + 182) s5) (B + hi) 1 = true := yt_rc hLT
    unfold F_Layout_clear at e6
    rw [hr5, if_pos rfl] at e6
    exact e6
  · rw [m6.1 k (by omega), ← hs5]
    show up1 (up1 (up1 (up1 s1.1 (hi + 1) _) (hi + 1 + 1) _) (hi + 1 + 1 + 1) _) (hi + 1 + 1 + 1 + 1) _ k = _
    rw [up1_ne (by omega), up1_ne (by omega), up1_ne (by omega), up1_ne (by omega), ← hs1]
    exact up1_ne (by omega)
  · rw [m6.2, ← hs5, ← hs1]
theorem new_she : ∃ D' s', F_Sheet_init N (mkM h0 B (upD D hi (.inr (5, [(2, 0), (2, 0), (0, 0), (0, 0), (0, 0)]))) (hi + 1) (z + 5) (up1 s.1 hi (nuls (fun j => decide (j < 2))), s.2)) (B + hi) = some (mkM h0 B D' (hi + 3) (z + 1053) s') ∧ BEL D hi s D' (hi + 3) s' ∧ D' hi = .inr (5, [(1, hi + 1), (1, hi + 2), (0, 0), (0, 0), (0, 0)]) ∧ D' (hi + 1) = .inl (5, 24) ∧ AR D' (hi + 3) (hi + 2) 1024 ∧ s'.1 hi 2 = nI 0 ∧ s'.1 hi 4 = nI 0 ∧ ∀ j, s'.1 (hi + 1) j = -1 := by
  generalize hs1 : ((up1 s.1 hi (nuls (fun j => decide (j < 2))), s.2) : mst) = s1
  generalize hD1 : upD D hi (.inr (5, [(2, 0), (2, 0), (0, 0), (0, 0), (0, 0)])) = D1
  have d1 : D1 hi = .inr (5, [(2, 0), (2, 0), (0, 0), (0, 0), (0, 0)]) := by rw [← hD1]; exact upD_s
  generalize hD2 : upD (upD D1 (hi + 1) (.inl (5, 24))) hi (.inr (5, [(1, hi + 1), (2, 0), (0, 0), (0, 0), (0, 0)])) = D2
  have d2 : D2 hi = .inr (5, [(1, hi + 1), (2, 0), (0, 0), (0, 0), (0, 0)]) := by rw [← hD2]; exact upD_s
  generalize hD3 : upD (upD D2 (hi + 1 + 1) (.inl (0, 1024))) hi (.inr (5, [(1, hi + 1), (1, hi + 1 + 1), (0, 0), (0, 0), (0, 0)])) = D3
  have d3 : D3 hi = .inr (5, [(1, hi + 1), (1, hi + 2), (0, 0), (0, 0), (0, 0)]) := by rw [← hD3]; exact upD_s
  have a1 : D3 (hi + 1) = .inl (5, 24) := by rw [← hD3, upD_n (by omega), upD_n (by omega), ← hD2, upD_n (by omega), upD_s]
  have a2 : D3 (hi + 2) = .inl (0, 1024) := by rw [← hD3, upD_n (by omega), upD_s]
  have ab : ∀ k, k < hi → D3 k = D k := fun k hk => by rw [← hD3, upD_n (by omega), upD_n (by omega), ← hD2, upD_n (by omega), upD_n (by omega), ← hD1, upD_n (by omega)]
  generalize hs3 : ((up1 (up1 s1.1 (hi + 1) (fun _ => -1)) (hi + 1 + 1) (fun _ => 0), s1.2) : mst) = s3
  have hr : rcv (mkM h0 B D1 (hi + 1) (z + 5) s1) (B + hi) 5 = true := rcv_mk (by omega) d1
  have hm2 : pm_my (mkM h0 B D1 (hi + 1) (z + 5) s1) (B + hi) = true := mk_my (by omega)
  have w2 : ∀ (s : mst) x, wF (mkM h0 B D3 (hi + 3) (z + 1053) s) (B + hi) 5 2 .int (.int x) = some (mkM h0 B D3 (hi + 3) (z + 1053) (wr1 s hi 2 x)) := fun s x => wI_mk (by omega) d3 (v := 0) rfl
  have w3 : ∀ (s : mst) x, wF (mkM h0 B D3 (hi + 3) (z + 1053) s) (B + hi) 5 3 .int (.int x) = some (mkM h0 B D3 (hi + 3) (z + 1053) (wr1 s hi 3 x)) := fun s x => wI_mk (by omega) d3 (v := 0) rfl
  have w4 : ∀ (s : mst), wF (mkM h0 B D3 (hi + 3) (z + 1053) s) (B + hi) 5 4 .boolean (.int 0) = some (mkM h0 B D3 (hi + 3) (z + 1053) (wr1 s hi 4 0)) := fun s => wZ_mk (by omega) d3 (v := 0) rfl (Or.inl rfl)
  have e24 : (24 : Int32) = nI 24 := rfl
  have e1024 : (1024 : Int32) = nI 1024 := rfl
  refine ⟨D3, wr1 (wr1 (wr1 s3 hi 2 0) hi 3 0) hi 4 0, ?_, ⟨by omega, fun k hk => ⟨ab k hk, ?_⟩, ?_⟩, d3, a1, ⟨by omega, a2, by decide⟩, ?_, ?_, fun j => ?_⟩
  · unfold F_Sheet_init
    rw [hr, if_pos rfl, hm2, if_pos rfl, e24, e1024]
    refine (st_aq (Or.inr rfl) (by decide) (by omega) d1 (by decide) (fun _ => rfl)).trans ?_
    rw [show [(2, 0), (2, 0), (0, 0), (0, 0), (0, 0)].set 0 (1, hi + 1) = [(1, hi + 1), (2, 0), (0, 0), (0, 0), (0, 0)] from rfl, hD2]
    refine (st_ar (Or.inl rfl) (by decide) (by omega) d2 (by simp) (fun _ => rfl)).trans ?_
    rw [show [(1, hi + 1), (2, 0), (0, 0), (0, 0), (0, 0)].set 1 (1, hi + 1 + 1) = [(1, hi + 1), (1, hi + 1 + 1), (0, 0), (0, 0), (0, 0)] from rfl, hD3]
    dsimp only
    rw [hs3]
    show ((wF (mkM h0 B D3 (hi + 3) (z + 1053) s3) (B + hi) 5 2 .int (.int 0)).bind fun S8 => (wF S8 (B + hi) 5 3 .int (.int 0)).bind fun S9 => (wF S9 (B + hi) 5 4 .boolean (.int 0)).bind fun S10 => some S10) = _
    rw [w2, Option.bind_some, w3, Option.bind_some, w4, Option.bind_some]
  · rw [wr1_ne (by omega), wr1_ne (by omega), wr1_ne (by omega), ← hs3]
    show up1 (up1 s1.1 (hi + 1) _) (hi + 1 + 1) _ k = _
    rw [up1_ne (by omega), up1_ne (by omega), ← hs1]
    exact up1_ne (by omega)
  · rw [wr1_2, wr1_2, wr1_2, ← hs3, ← hs1]
  · rw [wr1_at, if_neg (by decide), wr1_at, if_neg (by decide), wr1_at, if_pos rfl]; rfl
  · rw [wr1_at, if_pos rfl]; rfl
  · rw [wr1_ne (by omega), wr1_ne (by omega), wr1_ne (by omega), ← hs3]
    show up1 (up1 s1.1 (hi + 1) _) (hi + 1 + 1) _ (hi + 1) j = _
    rw [up1_ne (by omega), up1_same]
end NWP
