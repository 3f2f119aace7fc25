/-! ===== soundness: a method's whole walk ===== -/
theorem pm_nx_S {pc pc' : Nat} {ls ls' : pm_L} {st st' : List Value} {S S' : pm_S} (h : pm_nx pc ls st S = some (.inl (pc', ls', st', S'))) : S' = S := by
  have := pm_nx_inv h
  injection this with this
  injection this with _ this
  injection this with _ this
  injection this
set_option maxHeartbeats 4000000 in
theorem pm_stp_mono {G : pm_G} {mi : pm_I} {pc pc' : Nat} {i : Instr} {ls ls' : pm_L} {st st' : List Value} {S S' : pm_S} (h : pm_stp G mi pc i ls st S = some (.inl (pc', ls', st', S'))) : ps_lo S' = ps_lo S ∧ ps_hi S ≤ ps_hi S' ∧ ps_z S ≤ ps_z S' := by
  cases i <;> simp only [pm_stp, pm_ld, pm_ldl, pm_lda, pm_sti, pm_stl, pm_sta, pm_b2, pm_l2, pm_c1, pm_c2, pm_gf, pm_pf, pm_ai, pm_aj, pm_aq, pm_si, pm_sj, pm_sq, pm_lenS, pm_len, pm_newa, pm_inv, pm_cpy, pm_mx, pm_mb, pm_br, pm_rt] at h <;> (repeat' (split at h)) <;> first
    | (cases h; done)
    | (have := pm_nx_S h; subst this; exact ⟨rfl, Nat.le_refl _, Nat.le_refl _⟩)
    | (have := pm_nx_S h; subst this; exact ⟨rfl, Nat.le_succ _, Nat.le_add_right _ _⟩)
/-- a relation of calls that makes cells and loses none -/
def pm_mono (call : pm_I → List Value → pm_S → pm_O → Prop) : Prop := ∀ mj As S out, call mj As S out → ps_lo out.2 = ps_lo S ∧ ps_hi S ≤ ps_hi out.2 ∧ ps_z S ≤ ps_z out.2
theorem pm_ev_mono {G : pm_G} {call : pm_I → List Value → pm_S → pm_O → Prop} (hc : pm_mono call) {mi : pm_I} {out : pm_O} : ∀ (n pc : Nat) (ls : pm_L) (st : List Value) (S : pm_S), pm_ev G call mi n pc ls st S out → ps_lo out.2 = ps_lo S ∧ ps_hi S ≤ ps_hi out.2 ∧ ps_z S ≤ ps_z out.2 := by
  intro n
  induction n with
  | zero => intro pc ls st S h; exact h.elim
  | succ n ih =>
    intro pc ls st S h
    simp only [pm_ev] at h
    cases hat : pm_at mi pc with
    | none => rw [hat] at h; exact h.elim
    | some i =>
      rw [hat] at h
      dsimp only at h
      cases hs : pm_stp G mi pc i ls st S with
      | none => rw [hs] at h; exact h.elim
      | some X =>
        rw [hs] at h
        rcases X with ⟨pc', ls', st', S'⟩ | ⟨b, p1, p2, st'⟩ | ⟨mj, As, st'⟩ | v
        · dsimp only at h
          have h1 := ih _ _ _ _ h
          have h2 := pm_stp_mono hs
          exact ⟨h1.1.trans h2.1, Nat.le_trans h2.2.1 h1.2.1, Nat.le_trans h2.2.2 h1.2.2⟩
        · dsimp only at h
          split at h
          · exact ih _ _ _ _ h
          · exact ih _ _ _ _ h
        · dsimp only at h
          obtain ⟨r, S', h1, h2⟩ := h
          have h1 := hc _ _ _ _ h1
          have h2 := ih _ _ _ _ h2
          exact ⟨h2.1.trans h1.1, Nat.le_trans h1.2.1 h2.2.1, Nat.le_trans h1.2.2 h2.2.2⟩
        · dsimp only at h
          subst h
          exact ⟨rfl, Nat.le_refl _, Nat.le_refl _⟩
theorem pm_rel_mono {G : pm_G} {sp : pm_I → List Value → pm_S → pm_O → Prop} (hs : pm_mono sp) : ∀ d, pm_mono (pm_rel G sp d) := by
  intro d
  induction d with
  | zero => intro mj As S out h; exact h.elim
  | succ d ih =>
    intro mj As S out h
    rcases h with h | ⟨n, h⟩
    · exact hs _ _ _ _ h
    · exact pm_ev_mono ih _ _ _ _ _ h
theorem pm_at_ok {mi : pm_I} {pc : Nat} {i : Instr} (hM : ∀ q ∈ pi_c mi, ∃ len, decode (pi_b mi) q.1 = .ok (q.2, len) ∧ (pm_il q.2 = 0 ∨ len = pm_il q.2)) (h : pm_at mi pc = some i) : ∃ len, decode (pi_b mi) pc = .ok (i, len) ∧ (pm_il i = 0 ∨ len = pm_il i) := by
  unfold pm_at at h
  cases hf : (pi_c mi).find? (fun q => q.1 == pc) with
  | none => rw [hf] at h; cases h
  | some q =>
    rw [hf] at h
    have h1 := List.mem_of_find?_eq_some hf
    have h2 := List.find?_some hf
    simp only [beq_iff_eq] at h2
    cases h
    have := hM q h1
    rw [h2] at this
    exact this
theorem pm_inv_call {G : pm_G} {mi mj : pm_I} {idx pc : Nat} {md : Nat → Bool} {ls : pm_L} {st As st' : List Value} {S : pm_S} (h : pm_inv G mi idx md pc ls st S = some (.inr (.inr (.inl (mj, As, st'))))) :
    ∃ q, pg_m G (pi_co mi) idx = some (mj, q) ∧ md q = true ∧ (st'.map fun v => v.category).sum ≤ 8 ∧ (lg_sl As).length ≤ pi_L mj ∧ (((q = 0 ∨ q = 8) ∧ As.length = pi_na mj ∧ st = As.reverse ++ st') ∨ (q ≠ 8 ∧ q ≠ 0 ∧ q ≠ 3 ∧ q ≠ 4 ∧ q ≠ 5 ∧ q ≠ 6 ∧ q ≠ 7 ∧ ∃ a Bs fs, Bs.length = pi_na mj ∧ As = .ref a :: Bs ∧ st = Bs.reverse ++ .ref a :: st' ∧ ps_h S a = .inr (pi_co mj, fs) ∧ ps_lo S ≤ a ∧ a < ps_hi S)) := by
  unfold pm_inv at h
  split at h
  · rename_i mk hm
    split at h
    · rename_i hc
      simp only [Bool.and_eq_true, decide_eq_true_eq] at hc
      obtain ⟨⟨⟨c1, c2⟩, c3⟩, c4⟩ := hc
      injection h with h
      injection h with h
      injection h with h
      injection h with h
      injection h with h1 h2
      injection h2 with h2 h3
      subst h1; subst h2; subst h3
      refine ⟨0, hm, c1, c3, c4, Or.inl ⟨Or.inl rfl, ?_, ?_⟩⟩
      · rw [List.length_reverse, List.length_take]; omega
      · rw [List.reverse_reverse, List.take_append_drop]
    · cases h
  · split at h
    · split at h
      · split at h
        · cases h
        · cases h
      · cases h
    · cases h
  · split at h
    · unfold pm_cpy at h
      repeat' (split at h)
      all_goals cases h
    · cases h
  · split at h
    · unfold pm_mx at h
      repeat' (split at h)
      all_goals cases h
    · cases h
  · split at h
    · unfold pm_mx at h
      repeat' (split at h)
      all_goals cases h
    · cases h
  · split at h
    · unfold pm_mb at h
      repeat' (split at h)
      all_goals cases h
    · cases h
  · rename_i mk hm
    split at h
    · rename_i hc
      simp only [Bool.and_eq_true, decide_eq_true_eq] at hc
      obtain ⟨⟨⟨c1, c2⟩, c3⟩, c4⟩ := hc
      injection h with h
      injection h with h
      injection h with h
      injection h with h
      injection h with h1 h2
      injection h2 with h2 h3
      subst h1; subst h2; subst h3
      refine ⟨8, hm, c1, c3, c4, Or.inl ⟨Or.inr rfl, ?_, ?_⟩⟩
      · rw [List.length_reverse, List.length_take]; omega
      · rw [List.reverse_reverse, List.take_append_drop]
    · cases h
  · rename_i mk q n0 n3 n4 n5 n6 n7 n8 hm
    split at h
    · rename_i hc
      simp only [Bool.and_eq_true, decide_eq_true_eq] at hc
      obtain ⟨⟨⟨c1, c2⟩, c3⟩, c4⟩ := hc
      split at h
      · rename_i a r hd
        split at h
        · rename_i cj fs hcell
          split at h
          · rename_i hmy
            simp only [Bool.and_eq_true, decide_eq_true_eq] at hmy
            obtain ⟨hmy, rfl⟩ := hmy
            injection h with h
            injection h with h
            injection h with h
            injection h with h
            injection h with h1 h2
            injection h2 with h2 h3
            subst h1; subst h2; subst h3
            have hst : st = st.take (pi_na mk) ++ .ref a :: r := by rw [← hd, List.take_append_drop]
            have hr : st.drop (pi_na mk + 1) = r := by
              have : st.drop (pi_na mk + 1) = (st.drop (pi_na mk)).drop 1 := by rw [List.drop_drop]
              rw [this, hd]; rfl
            have hl : (st.take (pi_na mk)).length = pi_na mk := by rw [List.length_take]; omega
            have htk : st.take (pi_na mk + 1) = st.take (pi_na mk) ++ [.ref a] := by
              rw [List.take_add_one]
              have : st[pi_na mk]? = some (.ref a) := by
                have : (st.drop (pi_na mk))[0]? = some (.ref a) := by rw [hd]; rfl
                rw [List.getElem?_drop] at this
                simpa using this
              rw [this]; rfl
            refine ⟨q, hm, c1, by rw [← hr]; exact c3, ?_, Or.inr ⟨n8, n0, n3, n4, n5, n6, n7, a, (st.take (pi_na mk)).reverse, fs, by rw [List.length_reverse]; exact hl, rfl, by rw [List.reverse_reverse]; exact hst, hcell, (pm_my_iff.mp hmy).1, (pm_my_iff.mp hmy).2⟩⟩
            rw [htk, List.reverse_append] at c4
            exact c4
          · cases h
        · cases h
      · cases h
    · cases h
  · cases h
theorem pm_br_inv {b b' : Bool} {p1 p2 q1 q2 : Nat} {st st' : List Value} (h : pm_br b p1 p2 st = some (.inr (.inl (b', q1, q2, st')))) : (b', q1, q2, st') = (b, p1, p2, st) := by
  injection h with h
  injection h with h
  injection h with h
  exact h.symm
set_option maxHeartbeats 4000000 in
theorem pm_stp_br {G : pm_G} {mi : pm_I} {pc : Nat} {i : Instr} {ls : pm_L} {st : List Value} {S : pm_S} {q : Bool × Nat × Nat × List Value} (h : pm_stp G mi pc i ls st S = some (.inr (.inl q))) :
    (∃ c off x r, i = .ifCond c off ∧ st = .int x :: r ∧ 0 ≤ (pc : Int) + off ∧ q = (pm_cnd c x 0, pm_tg pc off, pc + 3, r)) ∨ (∃ c off y x r, i = .if_icmp c off ∧ st = .int y :: .int x :: r ∧ 0 ≤ (pc : Int) + off ∧ q = (pm_cnd c x y, pm_tg pc off, pc + 3, r)) := by
  obtain ⟨b, q1, q2, st'⟩ := q
  cases i
  case ifCond c off =>
    simp only [pm_stp, pm_c1] at h
    split at h
    · split at h
      · rename_i x r ho
        exact Or.inl ⟨c, off, x, r, rfl, rfl, ho, pm_br_inv h⟩
      · cases h
    · cases h
  case if_icmp c off =>
    simp only [pm_stp, pm_c2] at h
    split at h
    · split at h
      · rename_i y x r ho
        exact Or.inr ⟨c, off, y, x, r, rfl, rfl, ho, pm_br_inv h⟩
      · cases h
    · cases h
  all_goals simp only [pm_stp, pm_ld, pm_ldl, pm_lda, pm_sti, pm_stl, pm_sta, pm_b2, pm_l2, pm_gf, pm_pf, pm_ai, pm_aj, pm_aq, pm_si, pm_sj, pm_sq, pm_lenS, pm_len, pm_newa, pm_inv, pm_cpy, pm_mx, pm_mb, pm_rt] at h
  all_goals (repeat' (split at h))
  all_goals first | (cases h; done) | (cases pm_nx_inv h; done)
set_option maxHeartbeats 4000000 in
theorem pm_stp_call {G : pm_G} {mi : pm_I} {pc : Nat} {i : Instr} {ls : pm_L} {st : List Value} {S : pm_S} {q : pm_I × List Value × List Value} (h : pm_stp G mi pc i ls st S = some (.inr (.inr (.inl q)))) :
    (∃ k md, i = .invokestatic k ∧ (∀ q, md q = true → q = 0 ∨ 4 ≤ q) ∧ pm_inv G mi k md (pc + 3) ls st S = some (.inr (.inr (.inl q)))) ∨ (∃ k md, i = .invokevirtual k ∧ (∀ q, md q = true → q = 1) ∧ pm_inv G mi k md (pc + 3) ls st S = some (.inr (.inr (.inl q)))) ∨ (∃ k md, i = .invokespecial k ∧ (∀ q, md q = true → q = 2 ∨ q = 3) ∧ pm_inv G mi k md (pc + 3) ls st S = some (.inr (.inr (.inl q)))) := by
  cases i
  case invokestatic k => exact Or.inl ⟨k, (fun q => q == 0 || 4 ≤ q), rfl, fun q hq => by simpa using hq, h⟩
  case invokevirtual k => exact Or.inr (Or.inl ⟨k, (fun q => q == 1), rfl, fun q hq => by simpa using hq, h⟩)
  case invokespecial k => exact Or.inr (Or.inr ⟨k, (fun q => q == 2 || q == 3), rfl, fun q hq => by simpa using hq, h⟩)
  all_goals simp only [pm_stp, pm_ld, pm_ldl, pm_lda, pm_sti, pm_stl, pm_sta, pm_b2, pm_l2, pm_c1, pm_c2, pm_gf, pm_pf, pm_ai, pm_aj, pm_aq, pm_si, pm_sj, pm_sq, pm_lenS, pm_len, pm_newa, pm_br, pm_rt] at h
  all_goals (repeat' (split at h))
  all_goals first | (cases h; done) | (cases pm_nx_inv h; done)
