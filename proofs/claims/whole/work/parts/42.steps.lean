/-! ===== soundness: instructions that touch no cell ===== -/
theorem pm_nx_inv {pc : Nat} {ls : pm_L} {st : List Value} {S : pm_S} {X : pm_X} (h : pm_nx pc ls st S = some X) : X = .inl (pc, ls, st, S) := (Option.some.inj h).symm
theorem pm_ld_inv {pc : Nat} {ls : pm_L} {st : List Value} {S : pm_S} {i : Nat} {X : pm_X} (h : pm_ld pc ls st S i = some X) : ∃ x, lget ls i = some (.int x) ∧ X = .inl (pc, ls, .int x :: st, S) := by
  unfold pm_ld at h
  split at h
  · rename_i x hx
    exact ⟨x, hx, pm_nx_inv h⟩
  · cases h
theorem pm_ldl_inv {pc : Nat} {ls : pm_L} {st : List Value} {S : pm_S} {i : Nat} {X : pm_X} (h : pm_ldl pc ls st S i = some X) : ∃ x, lget ls i = some (.long x) ∧ X = .inl (pc, ls, .long x :: st, S) := by
  unfold pm_ldl at h
  split at h
  · rename_i x hx
    exact ⟨x, hx, pm_nx_inv h⟩
  · cases h
theorem pm_lda_inv {pc : Nat} {ls : pm_L} {st : List Value} {S : pm_S} {i : Nat} {X : pm_X} (h : pm_lda pc ls st S i = some X) : (∃ x, lget ls i = some (.ref x) ∧ X = .inl (pc, ls, .ref x :: st, S)) ∨ (lget ls i = some .null ∧ X = .inl (pc, ls, .null :: st, S)) := by
  unfold pm_lda at h
  split at h
  · rename_i x hx
    exact Or.inl ⟨x, hx, pm_nx_inv h⟩
  · rename_i hx
    exact Or.inr ⟨hx, pm_nx_inv h⟩
  · cases h
theorem pm_sti_inv {mi : pm_I} {pc : Nat} {ls : pm_L} {st : List Value} {S : pm_S} {i : Nat} {X : pm_X} (h : pm_sti mi pc ls st S i = some X) : ∃ x r, st = .int x :: r ∧ i < pi_L mi ∧ X = .inl (pc, lst1 ls i (.int x), r, S) := by
  unfold pm_sti at h
  split at h
  · split at h
    · rename_i x r hi
      exact ⟨x, r, rfl, hi, pm_nx_inv h⟩
    · cases h
  · cases h
theorem pm_stl_inv {mi : pm_I} {pc : Nat} {ls : pm_L} {st : List Value} {S : pm_S} {i : Nat} {X : pm_X} (h : pm_stl mi pc ls st S i = some X) : ∃ x r, st = .long x :: r ∧ i + 1 < pi_L mi ∧ X = .inl (pc, lst2 ls i (.long x), r, S) := by
  unfold pm_stl at h
  split at h
  · split at h
    · rename_i x r hi
      exact ⟨x, r, rfl, hi, pm_nx_inv h⟩
    · cases h
  · cases h
theorem pm_sta_inv {mi : pm_I} {pc : Nat} {ls : pm_L} {st : List Value} {S : pm_S} {i : Nat} {X : pm_X} (h : pm_sta mi pc ls st S i = some X) : (∃ x r, st = .ref x :: r ∧ i < pi_L mi ∧ X = .inl (pc, lst1 ls i (.ref x), r, S)) ∨ (∃ r, st = .null :: r ∧ i < pi_L mi ∧ X = .inl (pc, lst1 ls i .null, r, S)) := by
  unfold pm_sta at h
  split at h
  · split at h
    · rename_i x r hi
      exact Or.inl ⟨x, r, rfl, hi, pm_nx_inv h⟩
    · cases h
  · split at h
    · rename_i r hi
      exact Or.inr ⟨r, rfl, hi, pm_nx_inv h⟩
    · cases h
  · cases h
theorem pm_b2_inv {f : Int32 → Int32 → Int32} {pc : Nat} {ls : pm_L} {st : List Value} {S : pm_S} {X : pm_X} (h : pm_b2 f pc ls st S = some X) : ∃ y x r, st = .int y :: .int x :: r ∧ X = .inl (pc, ls, .int (f x y) :: r, S) := by
  unfold pm_b2 at h
  split at h
  · rename_i y x r
    exact ⟨y, x, r, rfl, pm_nx_inv h⟩
  · cases h
theorem pm_l2_inv {f : Int64 → Int64 → Int64} {pc : Nat} {ls : pm_L} {st : List Value} {S : pm_S} {X : pm_X} (h : pm_l2 f pc ls st S = some X) : ∃ y x r, st = .long y :: .long x :: r ∧ X = .inl (pc, ls, .long (f x y) :: r, S) := by
  unfold pm_l2 at h
  split at h
  · rename_i y x r
    exact ⟨y, x, r, rfl, pm_nx_inv h⟩
  · cases h
theorem pm_tg_eq {pc : Nat} {off : Int} (h : 0 ≤ (pc : Int) + off) : (pc : Int) + off = (pm_tg pc off : Int) := by unfold pm_tg; omega
theorem pm_iinc_at {l : pm_L} {i : Nat} {v : Value} (hg : lget l i = some v) : ∃ k : Nat, (pm_asc l)[k]? = some (i, v) := List.getElem?_of_mem (pm_asc_mem.mpr hg)
section PMA
variable {p : Program} {l : Launch} {e : Env} {R : Room} {s : State} {m : MethodId} {args : Array Value} {below : List Frame} {meth : Method} {c : Code} {H : Heap} {locs : List Loc} {cells slots : Nat} {Q : State → Prop} {G : pm_G} {mi : pm_I} {pc : Nat} {lsA : Array Slot} {S : pm_S} {ls : pm_L} {st : List Value} {i : Instr}
/-- goes on: locals and stack alone -/
def pm_quiet (i : Instr) : Bool := match i with
  | .getfield _ => false
  | .putfield _ => false
  | .iaload => false
  | .baload => false
  | .laload => false
  | .aaload => false
  | .iastore => false
  | .bastore => false
  | .lastore => false
  | .aastore => false
  | .arraylength => false
  | .newarray _ => false
  | .anewarray _ => false
  | .new _ => false
  | .invokestatic _ => false
  | .invokevirtual _ => false
  | .invokespecial _ => false
  | .ldc_w _ => false
  | .ldc2_w _ => false
  | .ifCond _ _ => false
  | .if_icmp _ _ => false
  | .ireturn => false
  | .lreturn => false
  | .areturn => false
  | .return_ => false
  | _ => true
set_option maxHeartbeats 4000000 in
theorem pm_quiet_ok (hx : p.tables.exec = Jvm.exec) (hb : c.code = pi_b mi) (hdd : ∃ len, decode (pi_b mi) pc = .ok (i, len) ∧ (pm_il i = 0 ∨ len = pm_il i)) (hq : pm_quiet i = true) {X : pm_X} (h : pm_stp G mi pc i ls st S = some X) (hl : pm_lv lsA (pi_L mi) ls) :
    ∃ pc' ls' st', X = .inl (pc', ls', st', S) ∧ ((∀ lsA', pm_lv lsA' (pi_L mi) ls' → W p l e R s m args below meth c H locs cells slots Q (F0 m pc' lsA' st')) → W p l e R s m args below meth c H locs cells slots Q (F0 m pc lsA st)) := by
  obtain ⟨len, hd0, hlen⟩ := hdd
  have hd : pm_il i ≠ 0 → decode (pi_b mi) pc = .ok (i, pm_il i) := fun hn => by
    rcases hlen with hz | hz
    · exact absurd hz hn
    · rw [← hz]; exact hd0
  cases i
  case aconst_null =>
    have hd := hd (by simp [pm_il])
    exact ⟨_, _, _, pm_nx_inv h, fun kk => lv_null hx hb hd (kk lsA hl)⟩
  case iconst n =>
    have hd := hd (by simp [pm_il])
    exact ⟨_, _, _, pm_nx_inv h, fun kk => lv_iconst hx hb hd rfl (kk lsA hl)⟩
  case bipush n =>
    have hd := hd (by simp [pm_il])
    exact ⟨_, _, _, pm_nx_inv h, fun kk => lv_bipush hx hb hd rfl (kk lsA hl)⟩
  case sipush n =>
    have hd := hd (by simp [pm_il])
    exact ⟨_, _, _, pm_nx_inv h, fun kk => lv_sipush hx hb hd rfl (kk lsA hl)⟩
  case lconst n =>
    have hd := hd (by simp [pm_il])
    exact ⟨_, _, _, pm_nx_inv h, fun kk => lv_lconst hx hb hd rfl (kk lsA hl)⟩
  case iload k =>
    have hd := hd (by simp [pm_il])
    obtain ⟨x, hg, rfl⟩ := pm_ld_inv h
    exact ⟨_, _, _, rfl, fun kk => lv_iload hx hb hd (lget_has hl hg) (kk lsA hl)⟩
  case iload_n k =>
    have hd := hd (by simp [pm_il])
    obtain ⟨x, hg, rfl⟩ := pm_ld_inv h
    exact ⟨_, _, _, rfl, fun kk => lv_iload_n hx hb hd rfl (lget_has hl hg) (kk lsA hl)⟩
  case lload k =>
    have hd := hd (by simp [pm_il])
    obtain ⟨x, hg, rfl⟩ := pm_ldl_inv h
    exact ⟨_, _, _, rfl, fun kk => lv_lload hx hb hd (lget_has hl hg) (kk lsA hl)⟩
  case lload_n k =>
    have hd := hd (by simp [pm_il])
    obtain ⟨x, hg, rfl⟩ := pm_ldl_inv h
    exact ⟨_, _, _, rfl, fun kk => lv_lload_n hx hb hd rfl (lget_has hl hg) (kk lsA hl)⟩
  case aload k =>
    have hd := hd (by simp [pm_il])
    rcases pm_lda_inv h with ⟨x, hg, rfl⟩ | ⟨hg, rfl⟩
    · exact ⟨_, _, _, rfl, fun kk => lv_aload hx hb hd (lget_has hl hg) (kk lsA hl)⟩
    · exact ⟨_, _, _, rfl, fun kk => lv_aloadN hx hb hd (lget_has hl hg) (kk lsA hl)⟩
  case aload_n k =>
    have hd := hd (by simp [pm_il])
    rcases pm_lda_inv h with ⟨x, hg, rfl⟩ | ⟨hg, rfl⟩
    · exact ⟨_, _, _, rfl, fun kk => lv_aload_n hx hb hd rfl (lget_has hl hg) (kk lsA hl)⟩
    · exact ⟨_, _, _, rfl, fun kk => lv_aload_nN hx hb hd rfl (lget_has hl hg) (kk lsA hl)⟩
  case istore k =>
    have hd := hd (by simp [pm_il])
    obtain ⟨x, r, rfl, hi, rfl⟩ := pm_sti_inv h
    exact ⟨_, _, _, rfl, fun kk => lv_istore hx hb hd hl.has hi rfl (fun ls' h' => kk ls' (pm_lv.st1 (ls := lsA) h'))⟩
  case istore_n k =>
    have hd := hd (by simp [pm_il])
    obtain ⟨x, r, rfl, hi, rfl⟩ := pm_sti_inv h
    exact ⟨_, _, _, rfl, fun kk => lv_istore_n hx hb hd rfl hl.has hi rfl (fun ls' h' => kk ls' (pm_lv.st1 (ls := lsA) h'))⟩
  case lstore k =>
    have hd := hd (by simp [pm_il])
    obtain ⟨x, r, rfl, hi, rfl⟩ := pm_stl_inv h
    exact ⟨_, _, _, rfl, fun kk => lv_lstore hx hb hd hl.has hi rfl (fun ls' h' => kk ls' (pm_lv.st2 (ls := lsA) h'))⟩
  case lstore_n k =>
    have hd := hd (by simp [pm_il])
    obtain ⟨x, r, rfl, hi, rfl⟩ := pm_stl_inv h
    exact ⟨_, _, _, rfl, fun kk => lv_lstore_n hx hb hd rfl hl.has hi rfl (fun ls' h' => kk ls' (pm_lv.st2 (ls := lsA) h'))⟩
  case astore k =>
    have hd := hd (by simp [pm_il])
    rcases pm_sta_inv h with ⟨x, r, rfl, hi, rfl⟩ | ⟨r, rfl, hi, rfl⟩
    · exact ⟨_, _, _, rfl, fun kk => lv_astore hx hb hd hl.has hi rfl (fun ls' h' => kk ls' (pm_lv.st1 (ls := lsA) h'))⟩
    · exact ⟨_, _, _, rfl, fun kk => lv_astoreN hx hb hd hl.has hi rfl (fun ls' h' => kk ls' (pm_lv.st1 (ls := lsA) h'))⟩
  case astore_n k =>
    have hd := hd (by simp [pm_il])
    rcases pm_sta_inv h with ⟨x, r, rfl, hi, rfl⟩ | ⟨r, rfl, hi, rfl⟩
    · exact ⟨_, _, _, rfl, fun kk => lv_astore_n hx hb hd rfl hl.has hi rfl (fun ls' h' => kk ls' (pm_lv.st1 (ls := lsA) h'))⟩
    · exact ⟨_, _, _, rfl, fun kk => lv_astore_nN hx hb hd rfl hl.has hi rfl (fun ls' h' => kk ls' (pm_lv.st1 (ls := lsA) h'))⟩
  case iinc k n =>
    have hd := hd (by simp [pm_il])
    simp only [pm_stp] at h
    split at h
    · split at h
      · rename_i x hg hi
        obtain ⟨j, hj⟩ := pm_iinc_at hg
        exact ⟨_, _, _, pm_nx_inv h, fun kk => lv_iinc hx hb hd hl.has hj rfl hi rfl (fun ls' h' => kk ls' (pm_lv.st1 (ls := lsA) h'))⟩
      · cases h
    · cases h
  case iadd =>
    have hd := hd (by simp [pm_il])
    obtain ⟨y, x, r, rfl, rfl⟩ := pm_b2_inv h
    exact ⟨_, _, _, rfl, fun kk => lv_iadd hx hb hd (kk lsA hl)⟩
  case isub =>
    have hd := hd (by simp [pm_il])
    obtain ⟨y, x, r, rfl, rfl⟩ := pm_b2_inv h
    exact ⟨_, _, _, rfl, fun kk => lv_isub hx hb hd (kk lsA hl)⟩
  case imul =>
    have hd := hd (by simp [pm_il])
    obtain ⟨y, x, r, rfl, rfl⟩ := pm_b2_inv h
    exact ⟨_, _, _, rfl, fun kk => lv_imul hx hb hd (kk lsA hl)⟩
  case iand =>
    have hd := hd (by simp [pm_il])
    obtain ⟨y, x, r, rfl, rfl⟩ := pm_b2_inv h
    exact ⟨_, _, _, rfl, fun kk => lv_iand hx hb hd (kk lsA hl)⟩
  case ior =>
    have hd := hd (by simp [pm_il])
    obtain ⟨y, x, r, rfl, rfl⟩ := pm_b2_inv h
    exact ⟨_, _, _, rfl, fun kk => lv_ior hx hb hd (kk lsA hl)⟩
  case ixor =>
    have hd := hd (by simp [pm_il])
    obtain ⟨y, x, r, rfl, rfl⟩ := pm_b2_inv h
    exact ⟨_, _, _, rfl, fun kk => lv_ixor hx hb hd (kk lsA hl)⟩
  case ishl =>
    have hd := hd (by simp [pm_il])
    obtain ⟨y, x, r, rfl, rfl⟩ := pm_b2_inv h
    exact ⟨_, _, _, rfl, fun kk => lv_ishl hx hb hd (kk lsA hl)⟩
  case ishr =>
    have hd := hd (by simp [pm_il])
    obtain ⟨y, x, r, rfl, rfl⟩ := pm_b2_inv h
    exact ⟨_, _, _, rfl, fun kk => lv_ishr hx hb hd (kk lsA hl)⟩
  case iushr =>
    have hd := hd (by simp [pm_il])
    obtain ⟨y, x, r, rfl, rfl⟩ := pm_b2_inv h
    exact ⟨_, _, _, rfl, fun kk => lv_iushr hx hb hd rfl (kk lsA hl)⟩
  case land =>
    have hd := hd (by simp [pm_il])
    obtain ⟨y, x, r, rfl, rfl⟩ := pm_l2_inv h
    exact ⟨_, _, _, rfl, fun kk => lv_land hx hb hd (kk lsA hl)⟩
  case lor =>
    have hd := hd (by simp [pm_il])
    obtain ⟨y, x, r, rfl, rfl⟩ := pm_l2_inv h
    exact ⟨_, _, _, rfl, fun kk => lv_lor hx hb hd (kk lsA hl)⟩
  case ladd =>
    have hd := hd (by simp [pm_il])
    obtain ⟨y, x, r, rfl, rfl⟩ := pm_l2_inv h
    exact ⟨_, _, _, rfl, fun kk => lv_ladd hx hb hd (kk lsA hl)⟩
  case lsub =>
    have hd := hd (by simp [pm_il])
    obtain ⟨y, x, r, rfl, rfl⟩ := pm_l2_inv h
    exact ⟨_, _, _, rfl, fun kk => lv_lsub hx hb hd (kk lsA hl)⟩
  case idiv =>
    have hd := hd (by simp [pm_il])
    simp only [pm_stp] at h
    split at h
    · split at h
      · cases h
      · rename_i hne
        exact ⟨_, _, _, pm_nx_inv h, fun kk => lv_idiv hx hb hd hne (kk lsA hl)⟩
    · cases h
  case irem =>
    have hd := hd (by simp [pm_il])
    simp only [pm_stp] at h
    split at h
    · split at h
      · cases h
      · rename_i hne
        exact ⟨_, _, _, pm_nx_inv h, fun kk => lv_irem hx hb hd hne (kk lsA hl)⟩
    · cases h
  case ineg =>
    have hd := hd (by simp [pm_il])
    simp only [pm_stp] at h
    split at h
    · exact ⟨_, _, _, pm_nx_inv h, fun kk => lv_ineg hx hb hd (kk lsA hl)⟩
    · cases h
  case lshl =>
    have hd := hd (by simp [pm_il])
    simp only [pm_stp] at h
    split at h
    · exact ⟨_, _, _, pm_nx_inv h, fun kk => lv_lshl hx hb hd rfl (kk lsA hl)⟩
    · cases h
  case lushr =>
    have hd := hd (by simp [pm_il])
    simp only [pm_stp] at h
    split at h
    · exact ⟨_, _, _, pm_nx_inv h, fun kk => lv_lushr hx hb hd rfl (kk lsA hl)⟩
    · cases h
  case i2l =>
    have hd := hd (by simp [pm_il])
    simp only [pm_stp] at h
    split at h
    · exact ⟨_, _, _, pm_nx_inv h, fun kk => lv_i2l hx hb hd rfl (kk lsA hl)⟩
    · cases h
  case l2i =>
    have hd := hd (by simp [pm_il])
    simp only [pm_stp] at h
    split at h
    · exact ⟨_, _, _, pm_nx_inv h, fun kk => lv_l2i hx hb hd rfl (kk lsA hl)⟩
    · cases h
  case i2b =>
    have hd := hd (by simp [pm_il])
    simp only [pm_stp] at h
    split at h
    · exact ⟨_, _, _, pm_nx_inv h, fun kk => lv_i2b hx hb hd rfl (kk lsA hl)⟩
    · cases h
  case lcmp =>
    have hd := hd (by simp [pm_il])
    simp only [pm_stp] at h
    split at h
    · exact ⟨_, _, _, pm_nx_inv h, fun kk => W.lcmp hx hb hd (kk lsA hl)⟩
    · cases h
  case dup =>
    have hd := hd (by simp [pm_il])
    simp only [pm_stp] at h
    split at h
    · split at h
      · rename_i hc
        exact ⟨_, _, _, pm_nx_inv h, fun kk => lv_dup hx hb hd hc (kk lsA hl)⟩
      · cases h
    · cases h
  case pop =>
    have hd := hd (by simp [pm_il])
    simp only [pm_stp] at h
    split at h
    · split at h
      · rename_i hc
        exact ⟨_, _, _, pm_nx_inv h, fun kk => lv_pop hx hb hd hc (kk lsA hl)⟩
      · cases h
    · cases h
  case dup2 =>
    have hd := hd (by simp [pm_il])
    simp only [pm_stp] at h
    split at h
    · split at h
      · rename_i hc
        exact ⟨_, _, _, pm_nx_inv h, fun kk => lv_dup2_11 hx hb hd hc.1 hc.2 (kk lsA hl)⟩
      · cases h
    · cases h
  case ifnull off =>
    have hd := hd (by simp [pm_il])
    simp only [pm_stp] at h
    split at h
    · exact ⟨_, _, _, pm_nx_inv h, fun kk => lv_ifnull hx hb hd (kk lsA hl)⟩
    · split at h
      · rename_i ho
        exact ⟨_, _, _, pm_nx_inv h, fun kk => lv_ifnullN hx hb hd (pm_tg_eq ho) (kk lsA hl)⟩
      · cases h
    · cases h
  case ifnonnull off =>
    have hd := hd (by simp [pm_il])
    simp only [pm_stp] at h
    split at h
    · exact ⟨_, _, _, pm_nx_inv h, fun kk => lv_ifnonnullN hx hb hd (kk lsA hl)⟩
    · split at h
      · rename_i ho
        exact ⟨_, _, _, pm_nx_inv h, fun kk => lv_ifnonnull hx hb hd (pm_tg_eq ho) (kk lsA hl)⟩
      · cases h
    · cases h
  case goto off =>
    have hd := hd (by simp [pm_il])
    simp only [pm_stp] at h
    split at h
    · rename_i ho
      exact ⟨_, _, _, pm_nx_inv h, fun kk => lv_goto hx hb hd (pm_tg_eq ho) (kk lsA hl)⟩
    · cases h
  case tableswitch dflt lo hi offs =>
    simp only [pm_stp] at h
    split at h
    · rename_i x r
      split at h
      · rename_i ho
        refine ⟨_, _, _, pm_nx_inv h, fun kk => ?_⟩
        by_cases hr : x.toInt < lo ∨ hi < x.toInt
        · refine lv_tableOut hx hb hd0 hr (tgt := pm_tg pc (pm_sw dflt lo hi offs x)) ?_ (kk lsA hl)
          rw [← pm_tg_eq ho.1, pm_sw, if_pos hr]
        · have hin : (x.toInt - lo).toNat < offs.size := by
            rcases ho.2 with z | z | z
            · exact absurd (Or.inl z) hr
            · exact absurd (Or.inr z) hr
            · exact z
          refine lv_tableIn hx hb hd0 (fun z => hr (Or.inl z)) (fun z => hr (Or.inr z)) (off := pm_sw dflt lo hi offs x) (tgt := pm_tg pc (pm_sw dflt lo hi offs x)) ?_ (pm_tg_eq ho.1) (kk lsA hl)
          rw [pm_sw, if_neg hr, Array.getElem?_eq_getElem hin]
          simp [Array.getD, hin]
      · cases h
    · cases h
  all_goals first | (cases hq; done) | (simp only [pm_stp] at h; cases h; done) | (cases h; done)
end PMA
