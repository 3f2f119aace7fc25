section NPL
variable {h0 : Nat → pm_C} {B : Nat} {D : Nat → pd} {hi z : Nat} {s : mst} {N K P j n t ci m : Nat} {fl : List (Nat × Nat)} {α : Type}
/-- an object is made and put into a field -/
theorem st_ob {ty : FieldType} {cont : pm_S → Option α} {INIT : pm_S → Nat → Option pm_S} {c : pm_C} {S1 : pm_S} {D' : Nat → pd} {hi' z' : Nat} {s' : mst} (hal : (ps_hi (mkM h0 B D hi z s), pm_al (mkM h0 B D hi z s) m c) = (B + hi, S1)) (hin : INIT S1 (B + hi) = some (mkM h0 B D' hi' z' s')) (hK : K < hi') (hD : D' K = .inr (ci, fl)) (hj : j < fl.length) (hf : ∀ q, pm_fit ty (.ref q) = true) : ((some (ps_hi (mkM h0 B D hi z s), pm_al (mkM h0 B D hi z s) m c)).bind fun (q4, S3) => (INIT S3 q4).bind fun S5 => (wF S5 (B + K) ci j ty (.ref q4)).bind cont) = cont (mkM h0 B (upD D' K (.inr (ci, fl.set j (1, hi)))) hi' z' s') := by
  rw [hal, Option.bind_some]
  dsimp only
  rw [hin, Option.bind_some, wN_mk hK hD hj (hf _), Option.bind_some]
/-- all stays but what P is -/
def KP (P : Nat) (D : Nat → pd) (hi : Nat) (s : mst) (D' : Nat → pd) (hi' : Nat) (s' : mst) : Prop := hi ≤ hi' ∧ (∀ k, k < hi → k ≠ P → D' k = D k) ∧ (∀ k, k < hi → s'.1 k = s.1 k) ∧ s'.2 = s.2
theorem KP_t {D' D'' : Nat → pd} {hi' hi'' : Nat} {s' s'' : mst} (h : KP P D hi s D' hi' s') (h' : KP P D' hi' s' D'' hi'' s'') : KP P D hi s D'' hi'' s'' := ⟨Nat.le_trans h.1 h'.1, fun k hk hp => (h'.2.1 k (Nat.lt_of_lt_of_le hk h.1) hp).trans (h.2.1 k hk hp), fun k hk => (h'.2.2.1 k (Nat.lt_of_lt_of_le hk h.1)).trans (h.2.2.1 k hk), h'.2.2.2.trans h.2.2.2⟩
theorem KP_r : KP P D hi s D hi s := ⟨Nat.le_refl _, fun _ _ _ => rfl, fun _ _ => rfl, rfl⟩
theorem KP_b {D' : Nat → pd} {hi' : Nat} {s' : mst} {d : pd} (h : BEL D hi s D' hi' s') : KP P D hi s (upD D' P d) hi' s' := ⟨h.1, fun k hk hp => by rw [upD_n hp]; exact (h.2.1 k hk).1, fun k hk => (h.2.1 k hk).2, h.2.2⟩
theorem KP_a {f : Nat → Int32} {d d' : pd} : KP P D hi s (upD (upD D hi d') P d) (hi + 1) (up1 s.1 hi f, s.2) := ⟨by omega, fun k hk hp => by rw [upD_n hp, upD_n (by omega)], fun k hk => up1_ne (by omega), rfl⟩
theorem AR_k {D' : Nat → pd} {hi' k n : Nat} {s' : mst} (e : KP P D hi s D' hi' s') (hk : k ≠ P) (h : AR D hi k n) : AR D' hi' k n := ⟨Nat.lt_of_lt_of_le h.1 e.1, by rw [e.2.1 k h.1 hk]; exact h.2.1, h.2.2⟩
theorem LG_k {D' : Nat → pd} {hi' L n : Nat} {s' : mst} (e : KP P D hi s D' hi' s') (hk : P < L) (h : LG D hi L n) : LG D' hi' L n := ⟨Nat.lt_of_lt_of_le h.1 e.1, by rw [e.2.1 L h.1 (by omega)]; exact h.2.1, AR_k e (by omega) h.2.2⟩
theorem LT_k {D' : Nat → pd} {hi' Y : Nat} {s' : mst} (e : KP P D hi s D' hi' s') (hk : P < Y) (h : LT D hi Y) : LT D' hi' Y := ⟨Nat.lt_of_lt_of_le h.1 e.1, by rw [e.2.1 Y h.1 (by omega)]; exact h.2.1, AR_k e (by omega) h.2.2.1, AR_k e (by omega) h.2.2.2.1, AR_k e (by omega) h.2.2.2.2.1, AR_k e (by omega) h.2.2.2.2.2⟩
theorem new_pla (hN : 1000 ≤ N) : ∃ D' s', F_Plan_init N (mkM h0 B (upD D hi (.inr (4, [(0, 0), (2, 0), (2, 0), (2, 0), (2, 0), (2, 0), (2, 0), (2, 0), (2, 0), (2, 0), (2, 0), (2, 0)]))) (hi + 1) (z + 12) (up1 s.1 hi (nuls (fun j => decide (0 < j))), s.2)) (B + hi) = some (mkM h0 B D' (hi + 27) (z + 1764) s') ∧ BEL D hi s D' (hi + 27) s' ∧ PL D' (hi + 27) hi ∧ DRs s' hi := by
  generalize hs0 : ((up1 s.1 hi (nuls (fun j => decide (0 < j))), s.2) : mst) = s0
  generalize hD0 : upD D hi (.inr (4, [(0, 0), (2, 0), (2, 0), (2, 0), (2, 0), (2, 0), (2, 0), (2, 0), (2, 0), (2, 0), (2, 0), (2, 0)])) = D0
  have d0 : D0 hi = .inr (4, [(0, 0), (2, 0), (2, 0), (2, 0), (2, 0), (2, 0), (2, 0), (2, 0), (2, 0), (2, 0), (2, 0), (2, 0)]) := by rw [← hD0]; exact upD_s
  have b0 : ∀ k, k < hi → D0 k = D k ∧ s0.1 k = s.1 k := fun k hk => ⟨by rw [← hD0]; exact upD_n (by omega), by rw [← hs0]; exact up1_ne (by omega)⟩
  have b02 : s0.2 = s.2 := by rw [← hs0]
  have hr : rcv (mkM h0 B D0 (hi + 1) (z + 12) s0) (B + hi) 4 = true := rcv_mk (by omega) d0
  have hm2 : pm_my (mkM h0 B D0 (hi + 1) (z + 12) s0) (B + hi) = true := mk_my (by omega)
  have e00 : wF (mkM h0 B D0 (hi + 1) (z + 12) s0) (B + hi) 4 0 .int (.int 0) = some (mkM h0 B D0 (hi + 1) (z + 12) (wr1 s0 hi 0 0)) := wI_mk (by omega) d0 (v := 0) rfl
  generalize ht0 : wr1 s0 hi 0 0 = t0 at e00
  have bt0 : ∀ k, k < hi → t0.1 k = s.1 k := fun k hk => by rw [← ht0, wr1_ne (by omega)]; exact (b0 k hk).2
  have bt2 : t0.2 = s.2 := by rw [← ht0, wr1_2]; exact b02
  obtain ⟨E1, t1, e1, bel1, lg1, la1, lb1⟩ := new_led (h0 := h0) (B := B) (D := D0) (hi := hi + 1) (z := z + 12) (s := t0) (N := N) (m := 7) (by decide)
  have d1' : E1 hi = .inr (4, [(0, 0), (2, 0), (2, 0), (2, 0), (2, 0), (2, 0), (2, 0), (2, 0), (2, 0), (2, 0), (2, 0), (2, 0)]) := by rw [(bel1.2.1 hi (by omega)).1]; exact d0
  generalize hD1 : upD E1 hi (.inr (4, [(0, 0), (1, hi + 1), (2, 0), (2, 0), (2, 0), (2, 0), (2, 0), (2, 0), (2, 0), (2, 0), (2, 0), (2, 0)])) = D1
  have d1 : D1 hi = .inr (4, [(0, 0), (1, hi + 1), (2, 0), (2, 0), (2, 0), (2, 0), (2, 0), (2, 0), (2, 0), (2, 0), (2, 0), (2, 0)]) := by rw [← hD1]; exact upD_s
  have kp1 : KP hi D0 (hi + 1) t0 D1 (hi + 3) t1 := by rw [← hD1]; exact KP_b bel1
  have own1 : ∀ k, k ≠ hi → D1 k = E1 k := fun k hk => by rw [← hD1]; exact upD_n hk
  generalize hD2 : upD (upD D1 (hi + 3) (.inl (0, 8))) hi (.inr (4, [(0, 0), (1, hi + 1), (1, hi + 3), (2, 0), (2, 0), (2, 0), (2, 0), (2, 0), (2, 0), (2, 0), (2, 0), (2, 0)])) = D2
  generalize ht2 : ((up1 t1.1 (hi + 3) (fun _ => 0), t1.2) : mst) = t2
  have d2 : D2 hi = .inr (4, [(0, 0), (1, hi + 1), (1, hi + 3), (2, 0), (2, 0), (2, 0), (2, 0), (2, 0), (2, 0), (2, 0), (2, 0), (2, 0)]) := by rw [← hD2]; exact upD_s
  have kp2 : KP hi D1 (hi + 3) t1 D2 (hi + 4) t2 := by rw [← hD2, ← ht2]; exact KP_a
  have ar2 : AR D2 (hi + 4) (hi + 3) 8 := ⟨by omega, by rw [← hD2, upD_n (by omega), upD_s], by decide⟩
  generalize hD3 : upD (upD D2 (hi + 4) (.inl (0, 7))) hi (.inr (4, [(0, 0), (1, hi + 1), (1, hi + 3), (1, hi + 4), (2, 0), (2, 0), (2, 0), (2, 0), (2, 0), (2, 0), (2, 0), (2, 0)])) = D3
  generalize ht3 : ((up1 t2.1 (hi + 4) (fun _ => 0), t2.2) : mst) = t3
  have d3 : D3 hi = .inr (4, [(0, 0), (1, hi + 1), (1, hi + 3), (1, hi + 4), (2, 0), (2, 0), (2, 0), (2, 0), (2, 0), (2, 0), (2, 0), (2, 0)]) := by rw [← hD3]; exact upD_s
  have kp3 : KP hi D2 (hi + 4) t2 D3 (hi + 5) t3 := by rw [← hD3, ← ht3]; exact KP_a
  have ar3 : AR D3 (hi + 5) (hi + 4) 7 := ⟨by omega, by rw [← hD3, upD_n (by omega), upD_s], by decide⟩
  obtain ⟨E4, t4, e4, bel4, lt4, cl4⟩ := new_lay (h0 := h0) (B := B) (D := D3) (hi := hi + 5) (z := z + 65) (s := t3) (N := N) hN
  have d4' : E4 hi = .inr (4, [(0, 0), (1, hi + 1), (1, hi + 3), (1, hi + 4), (2, 0), (2, 0), (2, 0), (2, 0), (2, 0), (2, 0), (2, 0), (2, 0)]) := by rw [(bel4.2.1 hi (by omega)).1]; exact d3
  generalize hD4 : upD E4 hi (.inr (4, [(0, 0), (1, hi + 1), (1, hi + 3), (1, hi + 4), (1, hi + 5), (2, 0), (2, 0), (2, 0), (2, 0), (2, 0), (2, 0), (2, 0)])) = D4
  have d4 : D4 hi = .inr (4, [(0, 0), (1, hi + 1), (1, hi + 3), (1, hi + 4), (1, hi + 5), (2, 0), (2, 0), (2, 0), (2, 0), (2, 0), (2, 0), (2, 0)]) := by rw [← hD4]; exact upD_s
  have kp4 : KP hi D3 (hi + 5) t3 D4 (hi + 10) t4 := by rw [← hD4]; exact KP_b bel4
  have own4 : ∀ k, k ≠ hi → D4 k = E4 k := fun k hk => by rw [← hD4]; exact upD_n hk
  obtain ⟨E5, t5, e5, bel5, lt5, cl5⟩ := new_lay (h0 := h0) (B := B) (D := D4) (hi := hi + 10) (z := z + 247) (s := t4) (N := N) hN
  have d5' : E5 hi = .inr (4, [(0, 0), (1, hi + 1), (1, hi + 3), (1, hi + 4), (1, hi + 5), (2, 0), (2, 0), (2, 0), (2, 0), (2, 0), (2, 0), (2, 0)]) := by rw [(bel5.2.1 hi (by omega)).1]; exact d4
  generalize hD5 : upD E5 hi (.inr (4, [(0, 0), (1, hi + 1), (1, hi + 3), (1, hi + 4), (1, hi + 5), (1, hi + 10), (2, 0), (2, 0), (2, 0), (2, 0), (2, 0), (2, 0)])) = D5
  have d5 : D5 hi = .inr (4, [(0, 0), (1, hi + 1), (1, hi + 3), (1, hi + 4), (1, hi + 5), (1, hi + 10), (2, 0), (2, 0), (2, 0), (2, 0), (2, 0), (2, 0)]) := by rw [← hD5]; exact upD_s
  have kp5 : KP hi D4 (hi + 10) t4 D5 (hi + 15) t5 := by rw [← hD5]; exact KP_b bel5
  have own5 : ∀ k, k ≠ hi → D5 k = E5 k := fun k hk => by rw [← hD5]; exact upD_n hk
  obtain ⟨E6, t6, e6, bel6, lg6, la6, lb6⟩ := new_led (h0 := h0) (B := B) (D := D5) (hi := hi + 15) (z := z + 429) (s := t5) (N := N) (m := 6) (by decide)
  have d6' : E6 hi = .inr (4, [(0, 0), (1, hi + 1), (1, hi + 3), (1, hi + 4), (1, hi + 5), (1, hi + 10), (2, 0), (2, 0), (2, 0), (2, 0), (2, 0), (2, 0)]) := by rw [(bel6.2.1 hi (by omega)).1]; exact d5
  generalize hD6 : upD E6 hi (.inr (4, [(0, 0), (1, hi + 1), (1, hi + 3), (1, hi + 4), (1, hi + 5), (1, hi + 10), (1, hi + 15), (2, 0), (2, 0), (2, 0), (2, 0), (2, 0)])) = D6
  have d6 : D6 hi = .inr (4, [(0, 0), (1, hi + 1), (1, hi + 3), (1, hi + 4), (1, hi + 5), (1, hi + 10), (1, hi + 15), (2, 0), (2, 0), (2, 0), (2, 0), (2, 0)]) := by rw [← hD6]; exact upD_s
  have kp6 : KP hi D5 (hi + 15) t5 D6 (hi + 17) t6 := by rw [← hD6]; exact KP_b bel6
  have own6 : ∀ k, k ≠ hi → D6 k = E6 k := fun k hk => by rw [← hD6]; exact upD_n hk
  obtain ⟨E7, t7, e7, bel7, lg7, la7, lb7⟩ := new_led (h0 := h0) (B := B) (D := D6) (hi := hi + 17) (z := z + 462) (s := t6) (N := N) (m := 10) (by decide)
  have d7' : E7 hi = .inr (4, [(0, 0), (1, hi + 1), (1, hi + 3), (1, hi + 4), (1, hi + 5), (1, hi + 10), (1, hi + 15), (2, 0), (2, 0), (2, 0), (2, 0), (2, 0)]) := by rw [(bel7.2.1 hi (by omega)).1]; exact d6
  generalize hD7 : upD E7 hi (.inr (4, [(0, 0), (1, hi + 1), (1, hi + 3), (1, hi + 4), (1, hi + 5), (1, hi + 10), (1, hi + 15), (1, hi + 17), (2, 0), (2, 0), (2, 0), (2, 0)])) = D7
  have d7 : D7 hi = .inr (4, [(0, 0), (1, hi + 1), (1, hi + 3), (1, hi + 4), (1, hi + 5), (1, hi + 10), (1, hi + 15), (1, hi + 17), (2, 0), (2, 0), (2, 0), (2, 0)]) := by rw [← hD7]; exact upD_s
  have kp7 : KP hi D6 (hi + 17) t6 D7 (hi + 19) t7 := by rw [← hD7]; exact KP_b bel7
  have own7 : ∀ k, k ≠ hi → D7 k = E7 k := fun k hk => by rw [← hD7]; exact upD_n hk
  obtain ⟨E8, t8, e8, bel8, lg8, la8, lb8⟩ := new_led (h0 := h0) (B := B) (D := D7) (hi := hi + 19) (z := z + 515) (s := t7) (N := N) (m := 12) (by decide)
  have d8' : E8 hi = .inr (4, [(0, 0), (1, hi + 1), (1, hi + 3), (1, hi + 4), (1, hi + 5), (1, hi + 10), (1, hi + 15), (1, hi + 17), (2, 0), (2, 0), (2, 0), (2, 0)]) := by rw [(bel8.2.1 hi (by omega)).1]; exact d7
  generalize hD8 : upD E8 hi (.inr (4, [(0, 0), (1, hi + 1), (1, hi + 3), (1, hi + 4), (1, hi + 5), (1, hi + 10), (1, hi + 15), (1, hi + 17), (1, hi + 19), (2, 0), (2, 0), (2, 0)])) = D8
  have d8 : D8 hi = .inr (4, [(0, 0), (1, hi + 1), (1, hi + 3), (1, hi + 4), (1, hi + 5), (1, hi + 10), (1, hi + 15), (1, hi + 17), (1, hi + 19), (2, 0), (2, 0), (2, 0)]) := by rw [← hD8]; exact upD_s
  have kp8 : KP hi D7 (hi + 19) t7 D8 (hi + 21) t8 := by rw [← hD8]; exact KP_b bel8
  have own8 : ∀ k, k ≠ hi → D8 k = E8 k := fun k hk => by rw [← hD8]; exact upD_n hk
  obtain ⟨E9, t9, e9, bel9, lg9, la9, lb9⟩ := new_led (h0 := h0) (B := B) (D := D8) (hi := hi + 21) (z := z + 578) (s := t8) (N := N) (m := 24) (by decide)
  have d9' : E9 hi = .inr (4, [(0, 0), (1, hi + 1), (1, hi + 3), (1, hi + 4), (1, hi + 5), (1, hi + 10), (1, hi + 15), (1, hi + 17), (1, hi + 19), (2, 0), (2, 0), (2, 0)]) := by rw [(bel9.2.1 hi (by omega)).1]; exact d8
  generalize hD9 : upD E9 hi (.inr (4, [(0, 0), (1, hi + 1), (1, hi + 3), (1, hi + 4), (1, hi + 5), (1, hi + 10), (1, hi + 15), (1, hi + 17), (1, hi + 19), (1, hi + 21), (2, 0), (2, 0)])) = D9
  have d9 : D9 hi = .inr (4, [(0, 0), (1, hi + 1), (1, hi + 3), (1, hi + 4), (1, hi + 5), (1, hi + 10), (1, hi + 15), (1, hi + 17), (1, hi + 19), (1, hi + 21), (2, 0), (2, 0)]) := by rw [← hD9]; exact upD_s
  have kp9 : KP hi D8 (hi + 21) t8 D9 (hi + 23) t9 := by rw [← hD9]; exact KP_b bel9
  have own9 : ∀ k, k ≠ hi → D9 k = E9 k := fun k hk => by rw [← hD9]; exact upD_n hk
  generalize hD10 : upD (upD D9 (hi + 23) (.inl (0, 10))) hi (.inr (4, [(0, 0), (1, hi + 1), (1, hi + 3), (1, hi + 4), (1, hi + 5), (1, hi + 10), (1, hi + 15), (1, hi + 17), (1, hi + 19), (1, hi + 21), (1, hi + 23), (2, 0)])) = D10
  generalize ht10 : ((up1 t9.1 (hi + 23) (fun _ => 0), t9.2) : mst) = t10
  have d10 : D10 hi = .inr (4, [(0, 0), (1, hi + 1), (1, hi + 3), (1, hi + 4), (1, hi + 5), (1, hi + 10), (1, hi + 15), (1, hi + 17), (1, hi + 19), (1, hi + 21), (1, hi + 23), (2, 0)]) := by rw [← hD10]; exact upD_s
  have kp10 : KP hi D9 (hi + 23) t9 D10 (hi + 24) t10 := by rw [← hD10, ← ht10]; exact KP_a
  have ar10 : AR D10 (hi + 24) (hi + 23) 10 := ⟨by omega, by rw [← hD10, upD_n (by omega), upD_s], by decide⟩
  obtain ⟨E11, t11, e11, bel11, sa11, sb11, sc11, sd11, se11, sf11⟩ := new_she (h0 := h0) (B := B) (D := D10) (hi := hi + 24) (z := z + 711) (s := t10) (N := N)
  have d11' : E11 hi = .inr (4, [(0, 0), (1, hi + 1), (1, hi + 3), (1, hi + 4), (1, hi + 5), (1, hi + 10), (1, hi + 15), (1, hi + 17), (1, hi + 19), (1, hi + 21), (1, hi + 23), (2, 0)]) := by rw [(bel11.2.1 hi (by omega)).1]; exact d10
  generalize hD11 : upD E11 hi (.inr (4, [(0, 0), (1, hi + 1), (1, hi + 3), (1, hi + 4), (1, hi + 5), (1, hi + 10), (1, hi + 15), (1, hi + 17), (1, hi + 19), (1, hi + 21), (1, hi + 23), (1, hi + 24)])) = D11
  have d11 : D11 hi = .inr (4, [(0, 0), (1, hi + 1), (1, hi + 3), (1, hi + 4), (1, hi + 5), (1, hi + 10), (1, hi + 15), (1, hi + 17), (1, hi + 19), (1, hi + 21), (1, hi + 23), (1, hi + 24)]) := by rw [← hD11]; exact upD_s
  have kp11 : KP hi D10 (hi + 24) t10 D11 (hi + 27) t11 := by rw [← hD11]; exact KP_b bel11
  have own11 : ∀ k, k ≠ hi → D11 k = E11 k := fun k hk => by rw [← hD11]; exact upD_n hk
  have c11 : KP hi D11 (hi + 27) t11 D11 (hi + 27) t11 := KP_r
  have c10 := KP_t kp11 c11
  have c9 := KP_t kp10 c10
  have c8 := KP_t kp9 c9
  have c7 := KP_t kp8 c8
  have c6 := KP_t kp7 c7
  have c5 := KP_t kp6 c6
  have c4 := KP_t kp5 c5
  have c3 := KP_t kp4 c4
  have c2 := KP_t kp3 c3
  have c1 := KP_t kp2 c2
  have c0 := KP_t kp1 c1
  have L1 : LG D11 (hi + 27) (hi + 1) 35 := LG_k c1 (by omega) ⟨lg1.1, by rw [own1 _ (by omega)]; exact lg1.2.1, lg1.2.2.1, by rw [own1 _ (by omega)]; exact lg1.2.2.2.1, lg1.2.2.2.2⟩
  have A3 : AR D11 (hi + 27) (hi + 3) 8 := AR_k c2 (by omega) ar2
  have A4 : AR D11 (hi + 27) (hi + 4) 7 := AR_k c3 (by omega) ar3
  have T5 : LT D11 (hi + 27) (hi + 5) := LT_k c4 (by omega) ⟨lt4.1, by rw [own4 _ (by omega)]; exact lt4.2.1, ⟨lt4.2.2.1.1, by rw [own4 _ (by omega)]; exact lt4.2.2.1.2.1, by decide⟩, ⟨lt4.2.2.2.1.1, by rw [own4 _ (by omega)]; exact lt4.2.2.2.1.2.1, by decide⟩, ⟨lt4.2.2.2.2.1.1, by rw [own4 _ (by omega)]; exact lt4.2.2.2.2.1.2.1, by decide⟩, ⟨lt4.2.2.2.2.2.1, by rw [own4 _ (by omega)]; exact lt4.2.2.2.2.2.2.1, by decide⟩⟩
  have T10 : LT D11 (hi + 27) (hi + 10) := LT_k c5 (by omega) ⟨lt5.1, by rw [own5 _ (by omega)]; exact lt5.2.1, ⟨lt5.2.2.1.1, by rw [own5 _ (by omega)]; exact lt5.2.2.1.2.1, by decide⟩, ⟨lt5.2.2.2.1.1, by rw [own5 _ (by omega)]; exact lt5.2.2.2.1.2.1, by decide⟩, ⟨lt5.2.2.2.2.1.1, by rw [own5 _ (by omega)]; exact lt5.2.2.2.2.1.2.1, by decide⟩, ⟨lt5.2.2.2.2.2.1, by rw [own5 _ (by omega)]; exact lt5.2.2.2.2.2.2.1, by decide⟩⟩
  have L15 : LG D11 (hi + 27) (hi + 15) 30 := LG_k c6 (by omega) ⟨lg6.1, by rw [own6 _ (by omega)]; exact lg6.2.1, lg6.2.2.1, by rw [own6 _ (by omega)]; exact lg6.2.2.2.1, lg6.2.2.2.2⟩
  have L17 : LG D11 (hi + 27) (hi + 17) 50 := LG_k c7 (by omega) ⟨lg7.1, by rw [own7 _ (by omega)]; exact lg7.2.1, lg7.2.2.1, by rw [own7 _ (by omega)]; exact lg7.2.2.2.1, lg7.2.2.2.2⟩
  have L19 : LG D11 (hi + 27) (hi + 19) 60 := LG_k c8 (by omega) ⟨lg8.1, by rw [own8 _ (by omega)]; exact lg8.2.1, lg8.2.2.1, by rw [own8 _ (by omega)]; exact lg8.2.2.2.1, lg8.2.2.2.2⟩
  have L21 : LG D11 (hi + 27) (hi + 21) 120 := LG_k c9 (by omega) ⟨lg9.1, by rw [own9 _ (by omega)]; exact lg9.2.1, lg9.2.2.1, by rw [own9 _ (by omega)]; exact lg9.2.2.2.1, lg9.2.2.2.2⟩
  have A23 : AR D11 (hi + 27) (hi + 23) 10 := AR_k c10 (by omega) ar10
  have S24 : D11 (hi + 24) = .inr (5, [(1, hi + 25), (1, hi + 26), (0, 0), (0, 0), (0, 0)]) := by rw [own11 _ (by omega)]; exact sa11
  have S25 : D11 (hi + 25) = .inl (5, 24) := by rw [own11 _ (by omega)]; exact sb11
  have A26 : AR D11 (hi + 27) (hi + 26) 1024 := ⟨by omega, by rw [own11 _ (by omega)]; exact sc11.2.1, by decide⟩
  have hPL : PL D11 (hi + 27) hi := ⟨by omega, d11, L1, A3, A4, T5, T10, L15, L17, L19, L21, A23, ⟨by omega, S24⟩, ⟨by omega, S25⟩, A26⟩
  obtain ⟨u1, f1, m1, g1⟩ := c_fill (N := N) (h0 := h0) (B := B) (D := D11) (hi := hi + 27) (z := z + 1764) (s := t11) (x := -1) (by omega) A3
  obtain ⟨u2, f2, m2, g2⟩ := c_fill (N := N) (h0 := h0) (B := B) (D := D11) (hi := hi + 27) (z := z + 1764) (s := u1) (x := -1) (by omega) A23
  refine ⟨D11, u2, ?_, ⟨by omega, fun k hk => ⟨?_, ?_⟩, ?_⟩, hPL, ?_⟩
  · unfold F_Plan_init
    rw [hr, if_pos rfl, hm2, if_pos rfl, e00, Option.bind_some]
    have n7 : (7 : Int32) = nI 7 := rfl
    have n8 : (8 : Int32) = nI 8 := rfl
    have n6 : (6 : Int32) = nI 6 := rfl
    have n10 : (10 : Int32) = nI 10 := rfl
    have n12 : (12 : Int32) = nI 12 := rfl
    have n24 : (24 : Int32) = nI 24 := rfl
    rw [n7, n8, n6, n10, n12, n24]
    refine (st_ob (INIT := fun S q => F_Ledger_init N S q (nI 7)) (al_mk o_led) e1 (by omega) d1' (by simp) (fun _ => rfl)).trans ?_
    rw [show [(0, 0), (2, 0), (2, 0), (2, 0), (2, 0), (2, 0), (2, 0), (2, 0), (2, 0), (2, 0), (2, 0), (2, 0)].set 1 (1, hi + 1) = [(0, 0), (1, hi + 1), (2, 0), (2, 0), (2, 0), (2, 0), (2, 0), (2, 0), (2, 0), (2, 0), (2, 0), (2, 0)] from rfl, hD1]
    refine (st_ar (Or.inl rfl) (by decide) (by omega) d1 (by simp) (fun _ => rfl)).trans ?_
    rw [show [(0, 0), (1, hi + 1), (2, 0), (2, 0), (2, 0), (2, 0), (2, 0), (2, 0), (2, 0), (2, 0), (2, 0), (2, 0)].set 2 (1, hi + 3) = [(0, 0), (1, hi + 1), (1, hi + 3), (2, 0), (2, 0), (2, 0), (2, 0), (2, 0), (2, 0), (2, 0), (2, 0), (2, 0)] from rfl, hD2, ht2]
    refine (st_ar (Or.inl rfl) (by decide) (by omega) d2 (by simp) (fun _ => rfl)).trans ?_
    rw [show [(0, 0), (1, hi + 1), (1, hi + 3), (2, 0), (2, 0), (2, 0), (2, 0), (2, 0), (2, 0), (2, 0), (2, 0), (2, 0)].set 3 (1, hi + 4) = [(0, 0), (1, hi + 1), (1, hi + 3), (1, hi + 4), (2, 0), (2, 0), (2, 0), (2, 0), (2, 0), (2, 0), (2, 0), (2, 0)] from rfl, hD3, ht3]
    refine (st_ob (INIT := fun S q => F_Layout_init N S q) (al_mk o_lay) e4 (by omega) d4' (by simp) (fun _ => rfl)).trans ?_
    rw [show [(0, 0), (1, hi + 1), (1, hi + 3), (1, hi + 4), (2, 0), (2, 0), (2, 0), (2, 0), (2, 0), (2, 0), (2, 0), (2, 0)].set 4 (1, hi + 5) = [(0, 0), (1, hi + 1), (1, hi + 3), (1, hi + 4), (1, hi + 5), (2, 0), (2, 0), (2, 0), (2, 0), (2, 0), (2, 0), (2, 0)] from rfl, hD4]
    refine (st_ob (INIT := fun S q => F_Layout_init N S q) (al_mk o_lay) e5 (by omega) d5' (by simp) (fun _ => rfl)).trans ?_
    rw [show [(0, 0), (1, hi + 1), (1, hi + 3), (1, hi + 4), (1, hi + 5), (2, 0), (2, 0), (2, 0), (2, 0), (2, 0), (2, 0), (2, 0)].set 5 (1, hi + 10) = [(0, 0), (1, hi + 1), (1, hi + 3), (1, hi + 4), (1, hi + 5), (1, hi + 10), (2, 0), (2, 0), (2, 0), (2, 0), (2, 0), (2, 0)] from rfl, hD5]
    refine (st_ob (INIT := fun S q => F_Ledger_init N S q (nI 6)) (al_mk o_led) e6 (by omega) d6' (by simp) (fun _ => rfl)).trans ?_
    rw [show [(0, 0), (1, hi + 1), (1, hi + 3), (1, hi + 4), (1, hi + 5), (1, hi + 10), (2, 0), (2, 0), (2, 0), (2, 0), (2, 0), (2, 0)].set 6 (1, hi + 15) = [(0, 0), (1, hi + 1), (1, hi + 3), (1, hi + 4), (1, hi + 5), (1, hi + 10), (1, hi + 15), (2, 0), (2, 0), (2, 0), (2, 0), (2, 0)] from rfl, hD6]
    refine (st_ob (INIT := fun S q => F_Ledger_init N S q (nI 10)) (al_mk o_led) e7 (by omega) d7' (by simp) (fun _ => rfl)).trans ?_
    rw [show [(0, 0), (1, hi + 1), (1, hi + 3), (1, hi + 4), (1, hi + 5), (1, hi + 10), (1, hi + 15), (2, 0), (2, 0), (2, 0), (2, 0), (2, 0)].set 7 (1, hi + 17) = [(0, 0), (1, hi + 1), (1, hi + 3), (1, hi + 4), (1, hi + 5), (1, hi + 10), (1, hi + 15), (1, hi + 17), (2, 0), (2, 0), (2, 0), (2, 0)] from rfl, hD7]
    refine (st_ob (INIT := fun S q => F_Ledger_init N S q (nI 12)) (al_mk o_led) e8 (by omega) d8' (by simp) (fun _ => rfl)).trans ?_
    rw [show [(0, 0), (1, hi + 1), (1, hi + 3), (1, hi + 4), (1, hi + 5), (1, hi + 10), (1, hi + 15), (1, hi + 17), (2, 0), (2, 0), (2, 0), (2, 0)].set 8 (1, hi + 19) = [(0, 0), (1, hi + 1), (1, hi + 3), (1, hi + 4), (1, hi + 5), (1, hi + 10), (1, hi + 15), (1, hi + 17), (1, hi + 19), (2, 0), (2, 0), (2, 0)] from rfl, hD8]
    refine (st_ob (INIT := fun S q => F_Ledger_init N S q (nI 24)) (al_mk o_led) e9 (by omega) d9' (by simp) (fun _ => rfl)).trans ?_
    rw [show [(0, 0), (1, hi + 1), (1, hi + 3), (1, hi + 4), (1, hi + 5), (1, hi + 10), (1, hi + 15), (1, hi + 17), (1, hi + 19), (2, 0), (2, 0), (2, 0)].set 9 (1, hi + 21) = [(0, 0), (1, hi + 1), (1, hi + 3), (1, hi + 4), (1, hi + 5), (1, hi + 10), (1, hi + 15), (1, hi + 17), (1, hi + 19), (1, hi + 21), (2, 0), (2, 0)] from rfl, hD9]
    refine (st_ar (Or.inl rfl) (by decide) (by omega) d9 (by simp) (fun _ => rfl)).trans ?_
    rw [show [(0, 0), (1, hi + 1), (1, hi + 3), (1, hi + 4), (1, hi + 5), (1, hi + 10), (1, hi + 15), (1, hi + 17), (1, hi + 19), (1, hi + 21), (2, 0), (2, 0)].set 10 (1, hi + 23) = [(0, 0), (1, hi + 1), (1, hi + 3), (1, hi + 4), (1, hi + 5), (1, hi + 10), (1, hi + 15), (1, hi + 17), (1, hi + 19), (1, hi + 21), (1, hi + 23), (2, 0)] from rfl, hD10, ht10]
    refine (st_ob (INIT := fun S q => F_Sheet_init N S q) (al_mk o_she) e11 (by omega) d11' (by simp) (fun _ => rfl)).trans ?_
    rw [show [(0, 0), (1, hi + 1), (1, hi + 3), (1, hi + 4), (1, hi + 5), (1, hi + 10), (1, hi + 15), (1, hi + 17), (1, hi + 19), (1, hi + 21), (1, hi + 23), (2, 0)].set 11 (1, hi + 24) = [(0, 0), (1, hi + 1), (1, hi + 3), (1, hi + 4), (1, hi + 5), (1, hi + 10), (1, hi + 15), (1, hi + 17), (1, hi + 19), (1, hi + 21), (1, hi + 23), (1, hi + 24)] from rfl, hD11]
    rw [pl_2 hPL, Option.bind_some]
    dsimp only
    rw [f1, Option.bind_some, pl_10 hPL, Option.bind_some]
    dsimp only
    rw [f2, Option.bind_some]
  · rw [c0.2.1 k (by omega) (by omega)]; exact (b0 k hk).1
  · rw [m2.1 k (by omega), m1.1 k (by omega), c0.2.2.1 k (by omega)]; exact bt0 k hk
  · rw [m2.2, m1.2, c0.2.2.2]; exact bt2
  · have q : ∀ k, k < 23 → k ≠ 3 → u2.1 (hi + k) = t11.1 (hi + k) := fun k k1 k2 => by rw [m2.1 _ (by omega), m1.1 _ (by omega)]
    have q24 : ∀ k, 24 ≤ k → u2.1 (hi + k) = t11.1 (hi + k) := fun k k1 => by rw [m2.1 _ (by omega), m1.1 _ (by omega)]
    refine ⟨⟨0, by omega, ?_⟩, ?_, ?_, ?_, ?_, ?_, ?_, ?_, ?_, ?_, fun h hh => ?_, ?_, ?_, fun j hj => ?_⟩
    · rw [q 1 (by omega) (by omega), c1.2.2.1 _ (by omega)]; exact lb1
    · rw [q 1 (by omega) (by omega), c1.2.2.1 _ (by omega)]; exact la1
    · rw [q 15 (by omega) (by omega), c6.2.2.1 _ (by omega)]; exact lb6
    · rw [q 15 (by omega) (by omega), c6.2.2.1 _ (by omega)]; exact la6
    · rw [q 17 (by omega) (by omega), c7.2.2.1 _ (by omega)]; exact lb7
    · rw [q 17 (by omega) (by omega), c7.2.2.1 _ (by omega)]; exact la7
    · rw [q 19 (by omega) (by omega), c8.2.2.1 _ (by omega)]; exact lb8
    · rw [q 19 (by omega) (by omega), c8.2.2.1 _ (by omega)]; exact la8
    · rw [q 21 (by omega) (by omega), c9.2.2.1 _ (by omega)]; exact lb9
    · rw [q 21 (by omega) (by omega), c9.2.2.1 _ (by omega)]; exact la9
    · rw [g2 h hh, cd_0]
    · rw [q24 24 (by omega)]; exact sd11
    · rw [q24 24 (by omega)]; exact se11
    · rw [q24 25 (by omega)]; exact sf11 j
end NPL
