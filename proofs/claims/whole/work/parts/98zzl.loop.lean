/-! ===== the law's loop ===== -/
section LOO
variable {h0 : Nat → pm_C} {B : Nat} {N b L : Nat} {xs : Nat → Int32}
theorem nI_m9 {k : Nat} (hL : L ≤ 4608) (hk : k < 10000) : nI L - 9 < nI k ↔ L < k + 9 := by
  by_cases c : L < 9
  · have h1 : ∀ L, L < 9 → nI L - 9 < 0 := by decide
    have h2 : (0 : Int32) ≤ nI k := nI_le (a := 0) (by omega) (by omega)
    exact ⟨fun _ => by omega, fun _ => Int32.lt_of_lt_of_le (h1 L c) h2⟩
  · have e : nI L - 9 = nI (L - 9) := by
      have : nI L = nI (L - 9) + nI 9 := by rw [nI_add, show L - 9 + 9 = L by omega]
      rw [this, show (9 : Int32) = nI 9 from rfl]
      exact Int32.add_sub_cancel _ _
    rw [e, nI_ltI (by omega) (by omega)]
    omega
set_option maxHeartbeats 4000000 in
theorem law_lp (hN : 2000 ≤ N) (hsc : SC h0 B b L xs) : ∀ f k eb D hi z s, L < k + 9 * f + 9 → 9 * eb ≤ k → k ≤ L + 9 → IAX eb D hi z s → ∃ D' hi' z' s' eb', F_Law_law_23 (cabF N) N b (B + 0) (B + 85) (B + 129) (f + 1) (nI k) (mkM h0 B D hi z s) = some (1, mkM h0 B D' hi' z' s') ∧ IAX eb' D' hi' z' s' ∧ eb' ≤ 520 := by
  have hL := hsc.2.1
  intro f
  induction f with
  | zero =>
    intro k eb D hi z s h1 h2 h3 h
    refine ⟨D, hi, z, s, eb, ?_, h, by omega⟩
    show B_Law_law_23 (cabF N) N (F_Law_law_23 (cabF N) N b (B + 0) (B + 85) (B + 129) 0) b (B + 0) (B + 85) (B + 129) (nI k) (mkM h0 B D hi z s) = _
    unfold B_Law_law_23 F_Law_law_1964
    rw [sc_n hsc, Option.bind_some, if_pos ((nI_m9 hL (by omega)).mpr (by omega))]
  | succ f ih =>
    intro k eb D hi z s h1 h2 h3 h
    have hun : F_Law_law_23 (cabF N) N b (B + 0) (B + 85) (B + 129) (f + 1 + 1) (nI k) (mkM h0 B D hi z s) = B_Law_law_23 (cabF N) N (F_Law_law_23 (cabF N) N b (B + 0) (B + 85) (B + 129) (f + 1)) b (B + 0) (B + 85) (B + 129) (nI k) (mkM h0 B D hi z s) := rfl
    rw [hun]
    by_cases c : L < k + 9
    · refine ⟨D, hi, z, s, eb, ?_, h, by omega⟩
      unfold B_Law_law_23 F_Law_law_1964
      rw [sc_n hsc, Option.bind_some, if_pos ((nI_m9 hL (by omega)).mpr c)]
    have nx : ∀ D' hi' z' s', IAX (eb + 1) D' hi' z' s' → ∃ D'' hi'' z'' s'' eb', F_Law_law_23 (cabF N) N b (B + 0) (B + 85) (B + 129) (f + 1) (nI (k + 9)) (mkM h0 B D' hi' z' s') = some (1, mkM h0 B D'' hi'' z'' s'') ∧ IAX eb' D'' hi'' z'' s'' ∧ eb' ≤ 520 := fun D' hi' z' s' g => ih (k + 9) (eb + 1) D' hi' z' s' (by omega) (by omega) (by omega) g
    generalize F_Law_law_23 (cabF N) N b (B + 0) (B + 85) (B + 129) (f + 1) = rec23 at nx
    have hk : k + 9 ≤ L := by omega
    unfold B_Law_law_23
    rw [sc_n hsc, Option.bind_some, if_neg (fun e => c ((nI_m9 hL (by omega)).mp e)), sc_r hsc (show k < L by omega), Option.bind_some]
    by_cases c0 : (xs k &&& 31) = 0
    · rw [if_pos c0]
      obtain ⟨D', hi', z', s', e, g⟩ := k_176 (cab := cabF N) (rec23 := rec23) hN hsc hk h
      rw [e]
      exact nx D' hi' z' s' (IAX_up g (by omega))
    rw [if_neg c0]
    by_cases c1 : (xs k &&& 31) = 1
    · rw [if_pos c1]
      obtain ⟨D', hi', z', s', e, g⟩ := k_249 (cab := cabF N) (rec23 := rec23) hN hsc hk h
      rw [e]
      exact nx D' hi' z' s' (IAX_up g (by omega))
    rw [if_neg c1]
    by_cases c2 : (xs k &&& 31) = 2
    · rw [if_pos c2]
      obtain ⟨D', hi', z', s', e, g⟩ := k_274 (cab := cabF N) (rec23 := rec23) hN hsc hk h
      rw [e]
      exact nx D' hi' z' s' (IAX_up g (by omega))
    rw [if_neg c2]
    by_cases c3 : (xs k &&& 31) = 3
    · rw [if_pos c3]
      obtain ⟨D', hi', z', s', e, g⟩ := k_287 (cab := cabF N) (rec23 := rec23) hN hsc hk h
      rw [e]
      exact nx D' hi' z' s' (IAX_up g (by omega))
    rw [if_neg c3]
    by_cases c4 : (xs k &&& 31) = 4
    · rw [if_pos c4]
      obtain ⟨D', hi', z', s', e, g⟩ := k_300 (N := N) (rec23 := rec23) hsc hk (by omega) h
      rw [e]
      exact nx D' hi' z' s' g
    rw [if_neg c4]
    by_cases c5 : (xs k &&& 31) = 5
    · rw [if_pos c5]
      obtain ⟨D', hi', z', s', e, g⟩ := k_380 (cab := cabF N) (rec23 := rec23) hN hsc hk h
      rw [e]
      exact nx D' hi' z' s' (IAX_up g (by omega))
    rw [if_neg c5]
    by_cases c6 : (xs k &&& 31) = 6
    · rw [if_pos c6]
      obtain ⟨D', hi', z', s', e, g⟩ := k_429 (cab := cabF N) (rec23 := rec23) hN hsc hk h
      rw [e]
      exact nx D' hi' z' s' (IAX_up g (by omega))
    rw [if_neg c6]
    by_cases c7 : (xs k &&& 31) = 7
    · rw [if_pos c7]
      obtain ⟨D', hi', z', s', e, g⟩ := k_466 (cab := cabF N) (rec23 := rec23) hN hsc hk h
      rw [e]
      exact nx D' hi' z' s' (IAX_up g (by omega))
    rw [if_neg c7]
    by_cases c8 : (xs k &&& 31) = 8
    · rw [if_pos c8]
      obtain ⟨D', hi', z', s', e, g⟩ := k_553 (cab := cabF N) (rec23 := rec23) hN hsc hk h
      rw [e]
      exact nx D' hi' z' s' (IAX_up g (by omega))
    rw [if_neg c8]
    by_cases c9 : (xs k &&& 31) = 9
    · rw [if_pos c9]
      obtain ⟨D', hi', z', s', e, g⟩ := k_640 (cab := cabF N) (rec23 := rec23) hN hsc hk h
      rw [e]
      exact nx D' hi' z' s' (IAX_up g (by omega))
    rw [if_neg c9]
    by_cases c10 : (xs k &&& 31) = 10
    · rw [if_pos c10]
      obtain ⟨D', hi', z', s', e, g⟩ := k_665 (cab := cabF N) (rec23 := rec23) hN hsc hk h
      rw [e]
      exact nx D' hi' z' s' (IAX_up g (by omega))
    rw [if_neg c10]
    by_cases c11 : (xs k &&& 31) = 11
    · rw [if_pos c11]
      obtain ⟨D', hi', z', s', e, g⟩ := k_796 (cab := cabF N) (rec23 := rec23) hN hsc hk h
      rw [e]
      exact nx D' hi' z' s' (IAX_up g (by omega))
    rw [if_neg c11]
    by_cases c12 : (xs k &&& 31) = 12
    · rw [if_pos c12]
      obtain ⟨D', hi', z', s', e, g⟩ := k_899 (cab := cabF N) (rec23 := rec23) hN hsc hk h
      rw [e]
      exact nx D' hi' z' s' (IAX_up g (by omega))
    rw [if_neg c12]
    by_cases c13 : (xs k &&& 31) = 13
    · rw [if_pos c13]
      obtain ⟨D', hi', z', s', e, g⟩ := k_977 (cab := cabF N) (rec23 := rec23) hN hsc hk h
      rw [e]
      exact nx D' hi' z' s' (IAX_up g (by omega))
    rw [if_neg c13]
    by_cases c14 : (xs k &&& 31) = 14
    · rw [if_pos c14]
      obtain ⟨D', hi', z', s', e, g⟩ := k_1042 (cab := cabF N) (rec23 := rec23) hN hsc hk h
      rw [e]
      exact nx D' hi' z' s' (IAX_up g (by omega))
    rw [if_neg c14]
    by_cases c15 : (xs k &&& 31) = 15
    · rw [if_pos c15]
      obtain ⟨D', hi', z', s', e, g⟩ := k_1119 (cab := cabF N) (rec23 := rec23) hN hsc hk h
      rw [e]
      exact nx D' hi' z' s' (IAX_up g (by omega))
    rw [if_neg c15]
    by_cases c16 : (xs k &&& 31) = 16
    · rw [if_pos c16]
      obtain ⟨D', hi', z', s', e, g⟩ := k_1168 (cab := cabF N) (rec23 := rec23) hN hsc hk h
      rw [e]
      exact nx D' hi' z' s' (IAX_up g (by omega))
    rw [if_neg c16]
    by_cases c17 : (xs k &&& 31) = 17
    · rw [if_pos c17]
      obtain ⟨D', hi', z', s', e, g⟩ := k_1269 (cab := cabF N) (rec23 := rec23) hN hsc hk h
      rw [e]
      exact nx D' hi' z' s' (IAX_up g (by omega))
    rw [if_neg c17]
    by_cases c18 : (xs k &&& 31) = 18
    · rw [if_pos c18]
      obtain ⟨D', hi', z', s', e, g⟩ := k_1346 (cab := cabF N) (rec23 := rec23) hN hsc hk h
      rw [e]
      exact nx D' hi' z' s' (IAX_up g (by omega))
    rw [if_neg c18]
    by_cases c19 : (xs k &&& 31) = 19
    · rw [if_pos c19]
      obtain ⟨D', hi', z', s', e, g⟩ := k_1423 (cab := cabF N) (rec23 := rec23) hN hsc hk h
      rw [e]
      exact nx D' hi' z' s' (IAX_up g (by omega))
    rw [if_neg c19]
    by_cases c20 : (xs k &&& 31) = 20
    · rw [if_pos c20]
      obtain ⟨D', hi', z', s', e, g⟩ := k_1448 (cab := cabF N) (rec23 := rec23) hN hsc hk h
      rw [e]
      exact nx D' hi' z' s' (IAX_up g (by omega))
    rw [if_neg c20]
    by_cases c21 : (xs k &&& 31) = 21
    · rw [if_pos c21]
      obtain ⟨D', hi', z', s', e, g⟩ := k_1485 (cab := cabF N) (rec23 := rec23) hN hsc hk h
      rw [e]
      exact nx D' hi' z' s' (IAX_up g (by omega))
    rw [if_neg c21]
    by_cases c22 : (xs k &&& 31) = 22
    · rw [if_pos c22]
      obtain ⟨D', hi', z', s', e, g⟩ := k_1510 (cab := cabF N) (rec23 := rec23) hN hsc hk h
      rw [e]
      exact nx D' hi' z' s' (IAX_up g (by omega))
    rw [if_neg c22]
    by_cases c23 : (xs k &&& 31) = 23
    · rw [if_pos c23]
      obtain ⟨D', hi', z', s', e, g⟩ := k_1547 (cab := cabF N) (rec23 := rec23) hN hsc hk h
      rw [e]
      exact nx D' hi' z' s' (IAX_up g (by omega))
    rw [if_neg c23]
    by_cases c24 : (xs k &&& 31) = 24
    · rw [if_pos c24]
      obtain ⟨D', hi', z', s', e, g⟩ := k_1624 (cab := cabF N) (rec23 := rec23) hN hsc hk h
      rw [e]
      exact nx D' hi' z' s' (IAX_up g (by omega))
    rw [if_neg c24]
    by_cases c25 : (xs k &&& 31) = 25
    · rw [if_pos c25]
      obtain ⟨D', hi', z', s', e, g⟩ := k_1701 (cab := cabF N) (rec23 := rec23) hN hsc hk h
      rw [e]
      exact nx D' hi' z' s' (IAX_up g (by omega))
    rw [if_neg c25]
    by_cases c26 : (xs k &&& 31) = 26
    · rw [if_pos c26]
      obtain ⟨D', hi', z', s', e, g⟩ := k_1750 (cab := cabF N) (rec23 := rec23) hN hsc hk h
      rw [e]
      exact nx D' hi' z' s' (IAX_up g (by omega))
    rw [if_neg c26]
    by_cases c27 : (xs k &&& 31) = 27
    · rw [if_pos c27]
      obtain ⟨D', hi', z', s', e, g⟩ := k_1823 (cab := cabF N) (rec23 := rec23) hN hsc hk h
      rw [e]
      exact nx D' hi' z' s' (IAX_up g (by omega))
    rw [if_neg c27]
    by_cases c28 : (xs k &&& 31) = 28
    · rw [if_pos c28]
      obtain ⟨D', hi', z', s', e, g⟩ := k_1872 (cab := cabF N) (rec23 := rec23) hN hsc hk h
      rw [e]
      exact nx D' hi' z' s' (IAX_up g (by omega))
    rw [if_neg c28]
    by_cases c29 : (xs k &&& 31) = 29
    · rw [if_pos c29]
      obtain ⟨D', hi', z', s', e, g⟩ := k_1933 (cab := cabF N) (rec23 := rec23) hN hsc hk h
      rw [e]
      exact nx D' hi' z' s' (IAX_up g (by omega))
    rw [if_neg c29]
    unfold F_Law_law_1958
    rw [xk_9]
    exact nx D hi z s (IAX_up h (by omega))
end LOO
