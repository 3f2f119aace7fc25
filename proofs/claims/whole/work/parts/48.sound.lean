section PMF
variable {p : Program} {l : Launch} {e : Env} {R : Room} {s : State} {m : MethodId} {args : Array Value} {below : List Frame} {meth : Method} {c : Code} {Q : State → Prop} {mi : pm_I} {Ts Ns : List Cond} {D : va_G} {cl : List vw_C} {dA : Nat → ClassId} {G : pm_G} {cn : Nat → String}
set_option maxHeartbeats 4000000 in
theorem pm_walk (hOK : pm_OKb G cl Ts Ns cn) (C : pm_Cx p s m args meth c mi (cn (pi_co mi)) Ts Ns D cl dA) (hMO : ∀ q ∈ pi_c mi, ∃ len, decode (pi_b mi) q.1 = .ok (q.2, len) ∧ (pm_il q.2 = 0 ∨ len = pm_il q.2)) (hK5 : pm_K5 dA s) {call : pm_I → List Value → pm_S → pm_O → Prop} {d : Nat} (hcall : ∀ mj As S r, call mj As S r → (lg_sl As).length ≤ pi_L mj → pm_MOk Ts cn mj → pm_Met cl Ts Ns l mj d As S r) (hcm : pm_mono call)
    (hfr : d + 1 ≤ R.frames) (hlo : 41 * (d + 1) ≤ R.locals) {out : pm_O} {hi0 z0 lo : Nat} (hRc : ps_hi out.2 - hi0 ≤ R.cells) (hRs : ps_z out.2 - z0 ≤ R.slots) (hlos : lo ≤ s.heap.size)
    (hX8 : ∀ (pc idx : Nat) (mj : pm_I) (As st' : List Value) (S S' : pm_S) (r : Option Value) (lsA : Array Slot) (H : Heap) (locs : List Loc), pg_m G (pi_co mi) idx = some (mj, 8) → pm_at mi pc = some (.invokestatic idx) → (lg_sl As).length ≤ pi_L mj → decode (pi_b mi) pc = .ok (.invokestatic idx, 3) → As.length = pi_na mj → (st'.map fun v => v.category).sum ≤ 8 → lsA.size = pi_L mi → call mj As S (r, S') → pm_H D cl dA s S H → ps_hi S' - hi0 ≤ R.cells → ps_z S' - z0 ≤ R.slots → hi0 ≤ ps_hi S → z0 ≤ ps_z S → ps_lo S = lo → va_S (fun q => lo ≤ q) s.heap H locs →
      va_Run p l e R s m args below meth c H locs (ps_hi S - hi0) (ps_z S - z0) (ps_hi S' - ps_hi S) (ps_z S' - ps_z S) (F0 m pc lsA (As.reverse ++ st')) st' (pm_Q D cl dA (r, S') (ps_lo S) As.toArray) (fun q => ps_lo S ≤ q))
    (hE : ∀ (pc : Nat) (i : Instr) (ls : pm_L) (st : List Value) (lsA : Array Slot) (H : Heap) (locs : List Loc), pm_stp G mi pc i ls st out.2 = some (.inr (.inr (.inr out.1))) → (∃ len, decode (pi_b mi) pc = .ok (i, len) ∧ (pm_il i = 0 ∨ len = pm_il i)) → pm_H D cl dA s out.2 H → va_S (fun q => lo ≤ q) s.heap H locs → ps_lo out.2 = lo → W p l e R s m args below meth c H locs (ps_hi out.2 - hi0) (ps_z out.2 - z0) Q (F0 m pc lsA st)) :
    ∀ (n pc : Nat) (ls : pm_L) (st : List Value) (S : pm_S) (lsA : Array Slot) (H : Heap) (locs : List Loc), pm_ev G call mi n pc ls st S out → pm_lv lsA (pi_L mi) ls → pm_H D cl dA s S H → va_S (fun q => lo ≤ q) s.heap H locs → ps_lo S = lo → hi0 ≤ ps_hi S → z0 ≤ ps_z S →
      W p l e R s m args below meth c H locs (ps_hi S - hi0) (ps_z S - z0) Q (F0 m pc lsA st) := by
  obtain ⟨hgd, hOA, hpl, hOF, hOM, hON, hOQ, hOC⟩ := id hOK
  obtain ⟨hx, hb, hml, hown, hts, hK, hin2, hNs⟩ := id C
  intro n
  induction n with
  | zero => intro pc ls st S lsA H locs h; exact h.elim
  | succ n ih =>
    intro pc ls st S lsA H locs h hl hH hS hS0 hh hz
    subst hS0
    simp only [pm_ev] at h
    cases hat : pm_at mi pc with
    | none => rw [hat] at h; exact h.elim
    | some i =>
      rw [hat] at h
      dsimp only at h
      have hdd := pm_at_ok hMO hat
      have hd : pm_il i ≠ 0 → decode (pi_b mi) pc = .ok (i, pm_il i) := fun hn => by
        obtain ⟨len, hd0, hlen⟩ := hdd
        rcases hlen with hz | hz
        · exact absurd hz hn
        · rw [← hz]; exact hd0
      cases hs : pm_stp G mi pc i ls st S with
      | none => rw [hs] at h; exact h.elim
      | some X =>
        rw [hs] at h
        rcases X with ⟨pc', ls', st', S'⟩ | ⟨b, p1, p2, st'⟩ | ⟨mj, As, st'⟩ | v
        · dsimp only at h
          have hm := pm_ev_mono hcm _ _ _ _ _ h
          by_cases hq : pm_quiet i = true
          · obtain ⟨pc2, ls2, st2, hX, kk⟩ := pm_quiet_ok (l := l) (e := e) (R := R) (s := s) (m := m) (args := args) (below := below) (meth := meth) (H := H) (locs := locs) (cells := ps_hi S - hi0) (slots := ps_z S - z0) (Q := Q) hx hb hdd hq hs hl
            cases hX
            exact kk (fun lsA' hl' => ih _ _ _ _ lsA' H locs h hl' hH hS rfl hh hz)
          · have rd : ∀ st2, (Sum.inl (pc', ls', st', S') : pm_X) = .inl (pc', ls, st2, S) → W p l e R s m args below meth c H locs (ps_hi S - hi0) (ps_z S - z0) Q (F0 m pc' lsA st2) := by
              intro st2 hX
              cases hX
              exact ih _ _ _ _ lsA H locs h hl hH hS rfl hh hz
            have g1 : ∀ pc2, pm_G1 p l e R s m args below meth c H locs (ps_hi S - hi0) (ps_z S - z0) Q pc pc2 lsA S ls st D cl dA (.inl (pc', ls', st', S')) → W p l e R s m args below meth c H locs (ps_hi S - hi0) (ps_z S - z0) Q (F0 m pc lsA st) := by
              intro pc2 hg
              obtain ⟨st2, S2, hX, b1, b2, b3, kk⟩ := hg
              cases hX
              refine kk (fun H' locs' hH' hS' => ?_)
              have := ih _ _ _ _ lsA H' locs' h hl hH' hS' b1 (by omega) (by omega)
              rw [b2, b3] at this
              exact this
            have g2 : ∀ pc2, pm_G2 p l e R s m args below meth c H locs (ps_hi S - hi0) (ps_z S - z0) Q pc pc2 lsA S ls st D cl dA (.inl (pc', ls', st', S')) → W p l e R s m args below meth c H locs (ps_hi S - hi0) (ps_z S - z0) Q (F0 m pc lsA st) := by
              intro pc2 hg
              obtain ⟨st2, S2, k, hX, b1, b2, b3, kk⟩ := hg
              cases hX
              refine kk (by omega) (by omega) (fun H' hH' hS' => ?_)
              have := ih _ _ _ _ lsA H' locs h hl hH' hS' b1 (by omega) (by omega)
              rw [b2, b3, show ps_hi S + 1 - hi0 = ps_hi S - hi0 + 1 by omega, show ps_z S + k - z0 = ps_z S - z0 + k by omega] at this
              exact this
            have inv : ∀ idx md pc2, pm_il i ≠ 0 → (∀ mk, (md 3 = true → i = .invokespecial idx) ∧ (∀ q, 4 ≤ q → md q = true → i = .invokestatic idx) ∧ pm_inv G mi idx md pc2 ls st S = some mk → pc2 = pc + 3 → mk = .inl (pc', ls', st', S') → W p l e R s m args below meth c H locs (ps_hi S - hi0) (ps_z S - z0) Q (F0 m pc lsA st)) := by
              intro idx md pc2 hil mk hh3 hpc hmk
              obtain ⟨hm3, hm4, hmv⟩ := hh3
              subst hmk
              subst hpc
              unfold pm_inv at hmv
              split at hmv
              · split at hmv <;> cases hmv
              · rename_i mk hlk
                split at hmv
                · rename_i hmd
                  have hi := hm3 hmd
                  subst hi
                  split at hmv
                  · split at hmv
                    · rename_i a r hr8
                      simp only [Bool.and_eq_true, decide_eq_true_eq] at hr8
                      have hX := pm_nx_inv hmv
                      cases hX
                      have hd := hd hil
                      rcases hOM _ _ _ _ hlk with q | q | q | ⟨-, q1, q2, q3⟩ | q | q | q | q | q
                      · exact absurd q.1 (by decide)
                      · exact absurd q.1 (by decide)
                      · exact absurd q.1 (by decide)
                      · refine W.objInit hx hb hown (hts _ q1) (hts _ q2) (hts _ q3) rfl (by rw [hml]; exact hl.1) rfl hd (by omega) (by show 2 * 0 + _ + 12 ≤ _; omega) ?_
                        exact ih _ _ _ _ lsA H locs h hl hH hS rfl hh hz
                      · exact absurd q.1 (by decide)
                      · exact absurd q.1 (by decide)
                      · exact absurd q.1 (by decide)
                      · exact absurd q.1 (by decide)
                      · exact absurd q.1 (by decide)
                    · cases hmv
                  · cases hmv
                · cases hmv
              · rename_i mk hlk
                split at hmv
                · rename_i hmd
                  have hi := hm4 4 (by decide) hmd
                  subst hi
                  have hd := hd hil
                  rcases hOM _ _ _ _ hlk with q | q | q | q | ⟨-, q⟩ | q | q | q | q
                  · exact absurd q.1 (by decide)
                  · exact absurd q.1 (by decide)
                  · exact absurd q.1 (by decide)
                  · exact absurd q.1 (by decide)
                  · exact g1 _ (pm_cpy_ok C hl.1 hH hS q (by omega) (by omega) hd hmv)
                  · exact absurd q.1 (by decide)
                  · exact absurd q.1 (by decide)
                  · exact absurd q.1 (by decide)
                  · exact absurd q.1 (by decide)
                · cases hmv
              · rename_i mk hlk
                split at hmv
                · rename_i hmd
                  have hi := hm4 5 (by decide) hmd
                  subst hi
                  have hd := hd hil
                  rcases hOM _ _ _ _ hlk with q | q | q | q | q | ⟨-, q1, q2, q3, q4⟩ | q | q | q
                  · exact absurd q.1 (by decide)
                  · exact absurd q.1 (by decide)
                  · exact absurd q.1 (by decide)
                  · exact absurd q.1 (by decide)
                  · exact absurd q.1 (by decide)
                  · unfold pm_mx at hmv
                    split at hmv
                    · split at hmv
                      · rename_i hr8
                        have hX := pm_nx_inv hmv
                        have hX' := hX
                        cases hX
                        exact va_mmax hx hb (hml.trans hl.1.symm) hown (hts _ q1) (hts _ q2) (hts _ q3) (hts _ q4) (by omega) (by omega) (by omega) (by omega) hd (rd _ hX')
                      · cases hmv
                    · cases hmv
                  · exact absurd q.1 (by decide)
                  · exact absurd q.1 (by decide)
                  · exact absurd q.1 (by decide)
                · cases hmv
              · rename_i mk hlk
                split at hmv
                · rename_i hmd
                  have hi := hm4 6 (by decide) hmd
                  subst hi
                  have hd := hd hil
                  rcases hOM _ _ _ _ hlk with q | q | q | q | q | q | ⟨-, q1, q2, q3, q4⟩ | q | q
                  · exact absurd q.1 (by decide)
                  · exact absurd q.1 (by decide)
                  · exact absurd q.1 (by decide)
                  · exact absurd q.1 (by decide)
                  · exact absurd q.1 (by decide)
                  · exact absurd q.1 (by decide)
                  · unfold pm_mx at hmv
                    split at hmv
                    · split at hmv
                      · rename_i hr8
                        have hX := pm_nx_inv hmv
                        have hX' := hX
                        cases hX
                        exact va_mmin hx hb (hml.trans hl.1.symm) hown (hts _ q1) (hts _ q2) (hts _ q3) (hts _ q4) (by omega) (by omega) (by omega) (by omega) hd (rd _ hX')
                      · cases hmv
                    · cases hmv
                  · exact absurd q.1 (by decide)
                  · exact absurd q.1 (by decide)
                · cases hmv
              · rename_i mk hlk
                split at hmv
                · rename_i hmd
                  have hi := hm4 7 (by decide) hmd
                  subst hi
                  have hd := hd hil
                  rcases hOM _ _ _ _ hlk with q | q | q | q | q | q | q | ⟨-, q1, q2, q3, q4⟩ | q
                  · exact absurd q.1 (by decide)
                  · exact absurd q.1 (by decide)
                  · exact absurd q.1 (by decide)
                  · exact absurd q.1 (by decide)
                  · exact absurd q.1 (by decide)
                  · exact absurd q.1 (by decide)
                  · exact absurd q.1 (by decide)
                  · unfold pm_mb at hmv
                    split at hmv
                    · split at hmv
                      · rename_i hr8
                        have hX := pm_nx_inv hmv
                        have hX' := hX
                        cases hX
                        exact va_mabs hx hb (hml.trans hl.1.symm) hown (hts _ q1) (hts _ q2) (hts _ q3) (hts _ q4) (by omega) (by omega) (by omega) (by omega) hd (rd _ hX')
                      · cases hmv
                    · cases hmv
                  · exact absurd q.1 (by decide)
                · cases hmv
              · split at hmv <;> cases hmv
              · repeat' (split at hmv)
                all_goals cases hmv
              · cases hmv
            cases i
            case getfield k =>
              simp only [pm_stp] at hs
              split at hs
              · rename_i ci j ty fin hf
                obtain ⟨st2, hX, kk⟩ := pm_gf_ok C hH (hOF _ _ _ _ _ _ hf) (hd (by simp [pm_il])) hs
                have hX' := hX
                cases hX
                exact kk (rd _ hX')
              · cases hs
            case putfield k =>
              simp only [pm_stp] at hs
              split at hs
              · rename_i ci j ty fin hf
                split at hs
                · rename_i hc
                  refine g1 _ (pm_pf_ok C hH hS (hOF _ _ _ _ _ _ hf) (fun hfin => ?_) (hd (by simp [pm_il])) hs)
                  subst hfin
                  simpa using hc
                · cases hs
              · cases hs
            case iaload =>
              obtain ⟨st2, hX, kk⟩ := pm_iaload_ok C hH hS hlos (hd (by simp [pm_il])) hs
              have hX' := hX
              cases hX
              exact kk (rd _ hX')
            case baload =>
              obtain ⟨st2, hX, kk⟩ := pm_baload_ok C hH (hd (by simp [pm_il])) hs
              have hX' := hX
              cases hX
              exact kk (rd _ hX')
            case laload =>
              obtain ⟨st2, hX, kk⟩ := pm_laload_ok C hH (hd (by simp [pm_il])) hs
              have hX' := hX
              cases hX
              exact kk (rd _ hX')
            case aaload =>
              obtain ⟨st2, hX, kk⟩ := pm_aaload_ok C hH (hd (by simp [pm_il])) hs
              have hX' := hX
              cases hX
              exact kk (rd _ hX')
            case arraylength =>
              obtain ⟨st2, hX, kk⟩ := pm_len_ok C hH (hd (by simp [pm_il])) hs
              have hX' := hX
              cases hX
              exact kk (rd _ hX')
            case iastore => exact g1 _ (pm_iastore_ok C hH hS (hd (by simp [pm_il])) hs)
            case bastore => exact g1 _ (pm_bastore_ok C hH hS (hd (by simp [pm_il])) hs)
            case lastore => exact g1 _ (pm_lastore_ok C hH hS (hd (by simp [pm_il])) hs)
            case aastore => exact g1 _ (pm_aastore_ok C hK5 hpl hH hS (hd (by simp [pm_il])) hs)
            case newarray t =>
              simp only [pm_stp] at hs
              split at hs
              · rename_i k hk
                exact g2 _ (pm_newarray_ok C hOA hH hS hk (hd (by simp [pm_il])) hs)
              · cases hs
            case anewarray k =>
              simp only [pm_stp] at hs
              split at hs
              · rename_i t hk
                split at hs
                · exact g2 _ (pm_anewarray_ok C hH hS (hOQ _ _ _ hk) (hd (by simp [pm_il])) hs)
                · cases hs
              · cases hs
            case new k =>
              simp only [pm_stp] at hs
              split at hs
              · rename_i ci fs hk
                exact g2 _ (pm_new_ok C hH hS (hON _ _ _ _ hk) (hd (by simp [pm_il])) hs)
              · cases hs
            case ldc_w k =>
              simp only [pm_stp] at hs
              split at hs
              · rename_i x hk
                have hX := pm_nx_inv hs
                have hX' := hX
                cases hX
                exact lv_ldcw hx hb hown (hts _ (hOC _ _ _ hk)) (hd (by simp [pm_il])) (rd _ hX')
              · cases hs
            case ldc2_w k =>
              simp only [pm_stp] at hs
              split at hs
              · rename_i x hk
                have hX := pm_nx_inv hs
                have hX' := hX
                cases hX
                exact lv_ldc2 hx hb hown (hts _ (hOC _ _ _ hk)) (hd (by simp [pm_il])) (rd _ hX')
              · cases hs
            case invokestatic k => exact inv k (fun q => q == 0 || 4 ≤ q) (pc + 3) (by simp [pm_il]) _ ⟨fun z => by simp at z, fun _ _ _ => rfl, hs⟩ rfl rfl
            case invokevirtual k => exact inv k (fun q => q == 1) (pc + 3) (by simp [pm_il]) _ ⟨fun z => by simp at z, fun q h4 z => by simp at z; omega, hs⟩ rfl rfl
            case invokespecial k => exact inv k (fun q => q == 2 || q == 3) (pc + 3) (by simp [pm_il]) _ ⟨fun _ => rfl, fun q h4 z => by simp at z; omega, hs⟩ rfl rfl
            case ifCond cd off =>
              simp only [pm_stp, pm_c1, pm_br] at hs
              repeat' (split at hs)
              all_goals cases hs
            case if_icmp cd off =>
              simp only [pm_stp, pm_c2, pm_br] at hs
              repeat' (split at hs)
              all_goals cases hs
            case ireturn =>
              simp only [pm_stp, pm_rt] at hs
              repeat' (split at hs)
              all_goals cases hs
            case lreturn =>
              simp only [pm_stp, pm_rt] at hs
              repeat' (split at hs)
              all_goals cases hs
            case areturn =>
              simp only [pm_stp, pm_rt] at hs
              repeat' (split at hs)
              all_goals cases hs
            case return_ =>
              simp only [pm_stp, pm_rt] at hs
              repeat' (split at hs)
              all_goals cases hs
            all_goals exact absurd rfl hq
        · dsimp only at h
          rcases pm_stp_br hs with ⟨cd, off, x, r, rfl, rfl, ho, hX⟩ | ⟨cd, off, y, x, r, rfl, rfl, ho, hX⟩
          · have hd := hd (by simp [pm_il])
            cases hX
            cases cd with
            | eq => exact lv_if_eq hx hb hd (pm_tg_eq ho) (fun hc => by simp only [pm_cnd, decide_eq_true_eq] at h; rw [if_pos hc] at h; exact ih _ _ _ _ lsA H locs h hl hH hS rfl hh hz) (fun hc => by simp only [pm_cnd, decide_eq_true_eq] at h; rw [if_neg hc] at h; exact ih _ _ _ _ lsA H locs h hl hH hS rfl hh hz)
            | ne => exact lv_if_ne hx hb hd (pm_tg_eq ho) (fun hc => by simp only [pm_cnd, decide_eq_true_eq] at h; rw [if_pos hc] at h; exact ih _ _ _ _ lsA H locs h hl hH hS rfl hh hz) (fun hc => by simp only [pm_cnd, decide_eq_true_eq] at h; rw [if_neg (not_not_intro hc)] at h; exact ih _ _ _ _ lsA H locs h hl hH hS rfl hh hz)
            | lt => exact lv_if_lt hx hb hd (pm_tg_eq ho) (fun hc => by simp only [pm_cnd, decide_eq_true_eq] at h; rw [if_pos hc] at h; exact ih _ _ _ _ lsA H locs h hl hH hS rfl hh hz) (fun hc => by simp only [pm_cnd, decide_eq_true_eq] at h; rw [if_neg hc] at h; exact ih _ _ _ _ lsA H locs h hl hH hS rfl hh hz)
            | ge => exact lv_if_ge hx hb hd (pm_tg_eq ho) (fun hc => by simp only [pm_cnd, decide_eq_true_eq] at h; rw [if_pos hc] at h; exact ih _ _ _ _ lsA H locs h hl hH hS rfl hh hz) (fun hc => by simp only [pm_cnd, decide_eq_true_eq] at h; rw [if_neg hc] at h; exact ih _ _ _ _ lsA H locs h hl hH hS rfl hh hz)
            | gt => exact lv_if_gt hx hb hd (pm_tg_eq ho) (fun hc => by simp only [pm_cnd, decide_eq_true_eq] at h; rw [if_pos hc] at h; exact ih _ _ _ _ lsA H locs h hl hH hS rfl hh hz) (fun hc => by simp only [pm_cnd, decide_eq_true_eq] at h; rw [if_neg hc] at h; exact ih _ _ _ _ lsA H locs h hl hH hS rfl hh hz)
            | le => exact lv_if_le hx hb hd (pm_tg_eq ho) (fun hc => by simp only [pm_cnd, decide_eq_true_eq] at h; rw [if_pos hc] at h; exact ih _ _ _ _ lsA H locs h hl hH hS rfl hh hz) (fun hc => by simp only [pm_cnd, decide_eq_true_eq] at h; rw [if_neg hc] at h; exact ih _ _ _ _ lsA H locs h hl hH hS rfl hh hz)
          · have hd := hd (by simp [pm_il])
            cases hX
            cases cd with
            | eq => exact lv_icmp_eq hx hb hd (pm_tg_eq ho) (fun hc => by simp only [pm_cnd, decide_eq_true_eq] at h; rw [if_pos hc] at h; exact ih _ _ _ _ lsA H locs h hl hH hS rfl hh hz) (fun hc => by simp only [pm_cnd, decide_eq_true_eq] at h; rw [if_neg hc] at h; exact ih _ _ _ _ lsA H locs h hl hH hS rfl hh hz)
            | ne => exact lv_icmp_ne hx hb hd (pm_tg_eq ho) (fun hc => by simp only [pm_cnd, decide_eq_true_eq] at h; rw [if_pos hc] at h; exact ih _ _ _ _ lsA H locs h hl hH hS rfl hh hz) (fun hc => by simp only [pm_cnd, decide_eq_true_eq] at h; rw [if_neg (not_not_intro hc)] at h; exact ih _ _ _ _ lsA H locs h hl hH hS rfl hh hz)
            | lt => exact lv_icmp_lt hx hb hd (pm_tg_eq ho) (fun hc => by simp only [pm_cnd, decide_eq_true_eq] at h; rw [if_pos hc] at h; exact ih _ _ _ _ lsA H locs h hl hH hS rfl hh hz) (fun hc => by simp only [pm_cnd, decide_eq_true_eq] at h; rw [if_neg hc] at h; exact ih _ _ _ _ lsA H locs h hl hH hS rfl hh hz)
            | ge => exact lv_icmp_ge hx hb hd (pm_tg_eq ho) (fun hc => by simp only [pm_cnd, decide_eq_true_eq] at h; rw [if_pos hc] at h; exact ih _ _ _ _ lsA H locs h hl hH hS rfl hh hz) (fun hc => by simp only [pm_cnd, decide_eq_true_eq] at h; rw [if_neg hc] at h; exact ih _ _ _ _ lsA H locs h hl hH hS rfl hh hz)
            | gt => exact lv_icmp_gt hx hb hd (pm_tg_eq ho) (fun hc => by simp only [pm_cnd, decide_eq_true_eq] at h; rw [if_pos hc] at h; exact ih _ _ _ _ lsA H locs h hl hH hS rfl hh hz) (fun hc => by simp only [pm_cnd, decide_eq_true_eq] at h; rw [if_neg hc] at h; exact ih _ _ _ _ lsA H locs h hl hH hS rfl hh hz)
            | le => exact lv_icmp_le hx hb hd (pm_tg_eq ho) (fun hc => by simp only [pm_cnd, decide_eq_true_eq] at h; rw [if_pos hc] at h; exact ih _ _ _ _ lsA H locs h hl hH hS rfl hh hz) (fun hc => by simp only [pm_cnd, decide_eq_true_eq] at h; rw [if_neg hc] at h; exact ih _ _ _ _ lsA H locs h hl hH hS rfl hh hz)
        · dsimp only at h
          obtain ⟨r, S', h1, h2⟩ := h
          have hm1 := hcm _ _ _ _ h1
          have hm2 := pm_ev_mono hcm _ _ _ _ _ h2
          dsimp only at hm1
          have run : ∀ idx q, pg_m G (pi_co mi) idx = some (mj, q) → (st'.map fun v => v.category).sum ≤ 8 → (lg_sl As).length ≤ pi_L mj → ((q = 0 ∧ decode (pi_b mi) pc = .ok (.invokestatic idx, 3) ∧ As.length = pi_na mj ∧ st = As.reverse ++ st') ∨
              (∃ a Bs fs, q = 1 ∧ decode (pi_b mi) pc = .ok (.invokevirtual idx, 3) ∧ Bs.length = pi_na mj ∧ As = .ref a :: Bs ∧ st = Bs.reverse ++ .ref a :: st' ∧ ps_h S a = .inr (pi_co mj, fs) ∧ ps_lo S ≤ a ∧ a < ps_hi S) ∨
              (∃ a Bs, q = 2 ∧ decode (pi_b mi) pc = .ok (.invokespecial idx, 3) ∧ Bs.length = pi_na mj ∧ As = .ref a :: Bs ∧ st = Bs.reverse ++ .ref a :: st')) → W p l e R s m args below meth c H locs (ps_hi S - hi0) (ps_z S - z0) Q (F0 m pc lsA st) := by
            intro idx q hlk h8 hlen hq
            refine pm_callW (out := (r, S')) (mc := ps_hi S' - ps_hi S) (ms := ps_z S' - ps_z S) (pm_run (out := (r, S')) hOK C hK5 hl.1 hH (fun hmo => hcall _ _ _ _ h1 hlen hmo) (hOM _ _ _ _ hlk) hfr hlo (by dsimp only; omega) (by dsimp only; omega) h8 hq) hS (fun H1 locs1 hH1 hS1 => ?_)
            have := ih _ _ _ _ lsA H1 locs1 h2 hl hH1 hS1 hm1.1 (by omega) (by omega)
            rw [show ps_hi S' - hi0 = ps_hi S - hi0 + (ps_hi S' - ps_hi S) by omega, show ps_z S' - z0 = ps_z S - z0 + (ps_z S' - ps_z S) by omega] at this
            exact this
          rcases pm_stp_call hs with ⟨k, md, rfl, hmd, hinv⟩ | ⟨k, md, rfl, hmd, hinv⟩ | ⟨k, md, rfl, hmd, hinv⟩
          · obtain ⟨q, hlk, hmq, h8, hlen, ⟨hq, e1, e2⟩ | ⟨n8, n0, n3, n4, n5, n6, n7, -⟩⟩ := pm_inv_call hinv
            · rcases hq with hq | hq
              · exact run k q hlk h8 hlen (Or.inl ⟨hq, hd (by simp [pm_il]), e1, e2⟩)
              · subst hq
                subst e2
                refine pm_callW (out := (r, S')) (mc := ps_hi S' - ps_hi S) (ms := ps_z S' - ps_z S) (hX8 _ _ _ _ _ _ _ _ _ _ _ hlk hat hlen (hd (by simp [pm_il])) e1 h8 hl.1 h1 hH (by omega) (by omega) hh hz rfl hS) hS (fun H1 locs1 hH1 hS1 => ?_)
                have := ih _ _ _ _ lsA H1 locs1 h2 hl hH1 hS1 hm1.1 (by omega) (by omega)
                rw [show ps_hi S' - hi0 = ps_hi S - hi0 + (ps_hi S' - ps_hi S) by omega, show ps_z S' - z0 = ps_z S - z0 + (ps_z S' - ps_z S) by omega] at this
                exact this
            · rcases hmd q hmq with z | z
              · exact absurd z n0
              · rcases hOM _ _ _ _ hlk with y | y | y | y | y | y | y | y | y <;> first | omega | (have := y.1; omega)
          · obtain ⟨q, hlk, hmq, h8, hlen, ⟨hq, e1, e2⟩ | ⟨n8, n0, n3, n4, n5, n6, n7, a, Bs, fs, e1, e2, e3, e4, e5, e6⟩⟩ := pm_inv_call hinv
            · rcases hq with hq | hq <;> exact absurd hq (by rw [hmd q hmq]; decide)
            · exact run k q hlk h8 hlen (Or.inr (Or.inl ⟨a, Bs, fs, hmd q hmq, hd (by simp [pm_il]), e1, e2, e3, e4, e5, e6⟩))
          · obtain ⟨q, hlk, hmq, h8, hlen, ⟨hq, e1, e2⟩ | ⟨n8, n0, n3, n4, n5, n6, n7, a, Bs, fs, e1, e2, e3, e4, e5, e6⟩⟩ := pm_inv_call hinv
            · have := hmd q hmq
              omega
            · rcases hmd q hmq with z | z
              · exact run k q hlk h8 hlen (Or.inr (Or.inr ⟨a, Bs, z, hd (by simp [pm_il]), e1, e2, e3⟩))
              · exact absurd z n3
        · dsimp only at h
          subst h
          exact hE pc i ls st lsA H locs hs hdd hH hS rfl
end PMF
set_option maxHeartbeats 4000000 in
theorem pm_stp_rt {G : pm_G} {mi : pm_I} {pc : Nat} {i : Instr} {ls : pm_L} {st : List Value} {S : pm_S} {v : Option Value} (h : pm_stp G mi pc i ls st S = some (.inr (.inr (.inr v)))) :
    (∃ x ty, i = .ireturn ∧ st = [.int x] ∧ v = some (.int x) ∧ pi_r mi = some ty ∧ narrow ty (.int x) = .int x) ∨ (∃ x, i = .lreturn ∧ st = [.long x] ∧ v = some (.long x) ∧ pi_r mi = some .long) ∨ (∃ x C, i = .areturn ∧ st = [x] ∧ v = some x ∧ pi_r mi = some (.object C) ∧ (x = .null ∨ ∃ a, x = .ref a)) ∨ (i = .return_ ∧ st = [] ∧ v = none ∧ pi_r mi = none) := by
  have rt : ∀ w : Option Value, pm_rt w = some (.inr (.inr (.inr v))) → v = w := by
    intro w h
    injection h with h
    injection h with h
    injection h with h
    injection h with h
    exact h.symm
  cases i
  case ireturn =>
    simp only [pm_stp] at h
    split at h
    · rename_i x hr
      exact Or.inl ⟨x, .int, rfl, rfl, rt _ h, hr, rfl⟩
    · rename_i x hr
      split at h
      · rename_i hx
        refine Or.inl ⟨x, .boolean, rfl, rfl, rt _ h, hr, ?_⟩
        rcases hx with rfl | rfl <;> decide
      · cases h
    · cases h
  case lreturn =>
    simp only [pm_stp] at h
    split at h
    · rename_i x hr
      exact Or.inr (Or.inl ⟨x, rfl, rfl, rt _ h, hr⟩)
    · cases h
  case areturn =>
    simp only [pm_stp] at h
    split at h
    · rename_i a C hr
      exact Or.inr (Or.inr (Or.inl ⟨.ref a, C, rfl, rfl, rt _ h, hr, Or.inr ⟨a, rfl⟩⟩))
    · rename_i C hr
      exact Or.inr (Or.inr (Or.inl ⟨.null, C, rfl, rfl, rt _ h, hr, Or.inl rfl⟩))
    · cases h
  case return_ =>
    simp only [pm_stp] at h
    split at h
    · rename_i hr
      exact Or.inr (Or.inr (Or.inr ⟨rfl, rfl, rt _ h, hr⟩))
    · cases h
  all_goals simp only [pm_stp, pm_ld, pm_ldl, pm_lda, pm_sti, pm_stl, pm_sta, pm_b2, pm_l2, pm_c1, pm_c2, pm_gf, pm_pf, pm_ai, pm_aj, pm_aq, pm_si, pm_sj, pm_sq, pm_lenS, pm_len, pm_newa, pm_inv, pm_cpy, pm_mx, pm_mb, pm_br] at h
  all_goals (repeat' (split at h))
  all_goals first | (cases h; done) | (cases pm_nx_inv h; done)
set_option maxHeartbeats 1000000 in
/-- THE SOUNDNESS of the pure machine: what it answers is the method's contract -/
theorem pm_sound {G : pm_G} {cl : List vw_C} {Ts Ns : List Cond} {cn : Nat → String} {l : Launch} (hOK : pm_OKb G cl Ts Ns cn) {sp : pm_I → List Value → pm_S → pm_O → Prop} (hspm : pm_mono sp) (h8 : ∀ mi idx mj, pm_MOk Ts cn mi → pg_m G (pi_co mi) idx ≠ some (mj, 8))
    (hsp : ∀ d mi As S out, sp mi As S out → (lg_sl As).length ≤ pi_L mi → pm_MOk Ts cn mi → pm_Met cl Ts Ns l mi (d + 1) As S out) :
    ∀ d mi As S out, pm_rel G sp d mi As S out → (lg_sl As).length ≤ pi_L mi → pm_MOk Ts cn mi → pm_Met cl Ts Ns l mi d As S out := by
  intro d
  induction d with
  | zero => intro mi As S out h; exact h.elim
  | succ d ih =>
    intro mi As S out h hlen hMO
    rcases h with h | ⟨n, h⟩
    · exact hsp d mi As S out h hlen hMO
    intro D dA
    refine Met.ofW (cc := pi_b mi) (maxL := pi_L mi) (ret := pi_r mi) hMO.2.2.2.2.1 rfl ?_
    intro p e s m args below meth c s₁ B hml hv
    obtain ⟨rfl, hH, hK, hK5, hNs⟩ := hv
    have hts := atoms_spec (ws := Cond.code (pi_y mi) (pi_b mi) (pi_L mi) (pi_r mi) :: Ts) B.pre
    have hown : s.vm.findClass (pi_y mi).cls = some m.cls := findClass_of_methodNamed B.named
    have hlocks := B.notSynchronized
    have hr := B.returns
    have hin : meth.name = (pi_y mi).name := (name_of_methodNamed B.named B.method).1
    have C : pm_Cx p s m As.toArray meth c mi (cn (pi_co mi)) Ts Ns D cl dA := ⟨B.exec, B.bytes, hml, by rw [hMO.2.2.2.2.2.1]; exact hown, fun w hw => hts w (List.mem_cons_of_mem _ hw), hK, fun z => by rw [hin]; exact hMO.2.2.2.2.2.2.1 z, hNs⟩
    have hl := lv_entry As (n := pi_L mi) hlen
    rw [lg_entry_eq]
    generalize (lg_sl As ++ List.replicate (pi_L mi - (lg_sl As).length) Slot.unset).toArray = ls at hl ⊢
    have key := pm_walk (p := p) (l := l) (e := e) (R := { frames := d + 1, cells := ps_hi out.2 - ps_hi S, slots := ps_z out.2 - ps_z S, locals := 41 * (d + 1) }) (below := below) (Q := MQ below (pm_Q D cl dA out (ps_lo S)) As.toArray s (ps_hi out.2 - ps_hi S) (ps_z out.2 - ps_z S) (fun q => ps_lo S ≤ q)) hOK C hMO.2.2.2.2.2.2.2 hK5 (call := pm_rel G sp d) (d := d) (fun mj Bs S' r => ih mj Bs S' r) (pm_rel_mono hspm d) (Nat.le_refl _) (Nat.le_refl _) (out := out) (hi0 := ps_hi S) (z0 := ps_z S) (lo := ps_lo S) (Nat.le_refl _) (Nat.le_refl _) (by rw [hH.1]; exact hH.2.1) (fun pc idx mj As' st' S1 S2 r lsA H locs h81 => absurd h81 (h8 mi idx mj hMO)) ?_ n 0 (lent (pi_L mi) As) [] S ls s.heap [] h (lent_ok hl) hH va_S.rf rfl (Nat.le_refl _) (Nat.le_refl _)
    · rw [Nat.sub_self, Nat.sub_self] at key
      exact key
    · intro pc i ls st lsA H locs hs hdd hH' hS' hlo'
      have hd : pm_il i ≠ 0 → decode (pi_b mi) pc = .ok (i, pm_il i) := fun hn => by
        obtain ⟨len, hd0, hlen⟩ := hdd
        rcases hlen with hz | hz
        · exact absurd hz hn
        · rw [← hz]; exact hd0
      have hq : ∀ t : State, t.heap = H → s.WarmedH t.vm → pm_Q D cl dA out (ps_lo S) As.toArray s (.returned out.1) t := fun t ht hW => ⟨⟨rfl, by rw [ht]; exact hH'.moved hW.alike, va_K.moved hW.alike hK, hK5.moved hW.alike⟩, hS'.F ht⟩
      rcases pm_stp_rt hs with ⟨x, ty, rfl, rfl, hv, hrt, hn⟩ | ⟨x, rfl, rfl, hv, hrt⟩ | ⟨x, C, rfl, rfl, hv, hrt, hx⟩ | ⟨rfl, rfl, hv, hrt⟩
      · rw [hv] at hq
        exact W.zret B.exec B.bytes (hr.trans hrt) hn hq hS'.2.2 (hd (by simp [pm_il])) hlocks
      · rw [hv] at hq
        exact W.lret B.exec B.bytes (hr.trans hrt) hq hS'.2.2 (hd (by simp [pm_il])) hlocks
      · rw [hv] at hq
        exact W.aret B.exec B.bytes (hr.trans hrt) (Or.inl ⟨_, rfl⟩) hx hq hS'.2.2 (hd (by simp [pm_il])) hlocks
      · rw [hv] at hq
        exact W.vret B.exec B.bytes (hr.trans hrt) hq hS'.2.2 (hd (by simp [pm_il])) hlocks
