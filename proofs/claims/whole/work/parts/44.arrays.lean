/-! ===== soundness: arrays, new cells ===== -/
theorem pm_in_iff {i : Int32} {n : Nat} : pm_in i n = true ↔ vp_in i n := by simp [pm_in, vp_in]
theorem pm_at_i {D : va_G} {cl : List vw_C} {dA : Nat → ClassId} {a t n : Nat} {g : Nat → Int32} {H : Heap} (h : H[a]? = some (arrV (dA t) n (fun j => .int (g j)))) : va_at D cl (a, pm_E dA (.inl (t, n, .inl g))) H := h
theorem pm_at_l {D : va_G} {cl : List vw_C} {dA : Nat → ClassId} {a t n : Nat} {g : Nat → Int64} {H : Heap} (h : H[a]? = some (arrV (dA t) n (fun j => .long (g j)))) : va_at D cl (a, pm_E dA (.inl (t, n, .inr (.inl g)))) H := h
theorem pm_at_q {D : va_G} {cl : List vw_C} {dA : Nat → ClassId} {a t n : Nat} {g : Nat → Option Nat} {H : Heap} (h : H[a]? = some (arrV (dA t) n (fun j => va_rf (g j)))) : va_at D cl (a, pm_E dA (.inl (t, n, .inr (.inr (.inr (.inr g)))))) H := h
section PMC
variable {p : Program} {l : Launch} {e : Env} {R : Room} {s : State} {m : MethodId} {args : Array Value} {below : List Frame} {meth : Method} {c : Code} {H : Heap} {locs : List Loc} {cells slots : Nat} {Q : State → Prop} {mi : pm_I} {pc : Nat} {lsA : Array Slot} {S : pm_S} {ls : pm_L} {st : List Value} {own : String} {Ts Ns : List Cond} {D : va_G} {cl : List vw_C} {dA : Nat → ClassId}
theorem pm_ai_inv {ts : List Nat} {X : pm_X} (h : pm_ai ts pc ls st S = some X) : ∃ i a r t n f, st = .int i :: .ref a :: r ∧ ps_h S a = .inl (t, n, .inl f) ∧ ts.contains t = true ∧ ((ps_lo S ≤ a ∧ a < ps_hi S) ∨ t = 6) ∧ vp_in i n ∧ X = .inl (pc, ls, .int (f i.toNatClampNeg) :: r, S) := by
  unfold pm_ai at h
  split at h
  · rename_i i a r
    split at h
    · rename_i t n f hc
      split at h
      · rename_i hm
        simp only [Bool.and_eq_true, Bool.or_eq_true, decide_eq_true_eq] at hm
        refine ⟨i, a, r, t, n, f, rfl, hc, hm.1.1, ?_, pm_in_iff.mp hm.2, pm_nx_inv h⟩
        rcases hm.1.2 with z | z
        · exact Or.inl (pm_my_iff.mp z)
        · exact Or.inr z
      · cases h
    · cases h
  · cases h
theorem pm_iaload_ok (C : pm_Cx p s m args meth c mi own Ts Ns D cl dA) (hH : pm_H D cl dA s S H) (hS : va_S (fun q => ps_lo S ≤ q) s.heap H locs) (hlo : ps_lo S ≤ s.heap.size) (hd : decode (pi_b mi) pc = .ok (.iaload, 1)) {X : pm_X} (h : pm_ai [0, 6] (pc + 1) ls st S = some X) :
    ∃ st', X = .inl (pc + 1, ls, st', S) ∧ (W p l e R s m args below meth c H locs cells slots Q (F0 m (pc + 1) lsA st') → W p l e R s m args below meth c H locs cells slots Q (F0 m pc lsA st)) := by
  obtain ⟨hx, hb, hml, hown, hts, hK, hin2, hNs⟩ := C
  obtain ⟨i, a, r, t, n, f, rfl, hc, ht, hm, hin, rfl⟩ := pm_ai_inv h
  refine ⟨_, rfl, fun kk => ?_⟩
  have ht : t = 0 ∨ t = 6 := by simpa using ht
  rcases ht with rfl | rfl
  · rcases hm with ⟨m1, m2⟩ | m
    · exact va_iald hx hb hK (hH.W1 m1 m2 hc) 0 0 rfl rfl hin hd kk
    · cases m
  · obtain ⟨g1, scr, k1, k2, k3, k4, k5⟩ := hH.2.2.2 a n f hc
    have hlt : i.toNatClampNeg < n := Nat.not_le.mp fun q => hin (Or.inr q)
    exact W.iald hx hb k1 k2 k3 (by rw [k4]; exact hin) (k5 _ hlt) rfl rfl hd kk
theorem pm_baload_ok (C : pm_Cx p s m args meth c mi own Ts Ns D cl dA) (hH : pm_H D cl dA s S H) (hd : decode (pi_b mi) pc = .ok (.baload, 1)) {X : pm_X} (h : pm_ai [2, 3] (pc + 1) ls st S = some X) :
    ∃ st', X = .inl (pc + 1, ls, st', S) ∧ (W p l e R s m args below meth c H locs cells slots Q (F0 m (pc + 1) lsA st') → W p l e R s m args below meth c H locs cells slots Q (F0 m pc lsA st)) := by
  obtain ⟨hx, hb, hml, hown, hts, hK, hin2, hNs⟩ := C
  obtain ⟨i, a, r, t, n, f, rfl, hc, ht, hm, hin, rfl⟩ := pm_ai_inv h
  refine ⟨_, rfl, fun kk => ?_⟩
  have ht : t = 2 ∨ t = 3 := by simpa using ht
  rcases ht with rfl | rfl
  · rcases hm with ⟨m1, m2⟩ | m
    · exact va_bald hx hb hK (hH.W1 m1 m2 hc) 0 2 rfl rfl hin hd kk
    · cases m
  · rcases hm with ⟨m1, m2⟩ | m
    · exact va_zald hx hb hK (hH.W1 m1 m2 hc) 0 3 rfl rfl hin hd kk
    · cases m
theorem pm_laload_ok (C : pm_Cx p s m args meth c mi own Ts Ns D cl dA) (hH : pm_H D cl dA s S H) (hd : decode (pi_b mi) pc = .ok (.laload, 1)) {X : pm_X} (h : pm_aj (pc + 1) ls st S = some X) :
    ∃ st', X = .inl (pc + 1, ls, st', S) ∧ (W p l e R s m args below meth c H locs cells slots Q (F0 m (pc + 1) lsA st') → W p l e R s m args below meth c H locs cells slots Q (F0 m pc lsA st)) := by
  obtain ⟨hx, hb, hml, hown, hts, hK, hin2, hNs⟩ := C
  unfold pm_aj at h
  split at h
  · split at h
    · rename_i hc
      split at h
      · rename_i hm
        simp only [Bool.and_eq_true, decide_eq_true_eq] at hm
        obtain ⟨⟨rfl, hm⟩, hin⟩ := hm
        obtain ⟨m1, m2⟩ := pm_my_iff.mp hm
        exact ⟨_, pm_nx_inv h, fun kk => va_lald hx hb hK (hH.W1 m1 m2 hc) 0 1 rfl rfl (pm_in_iff.mp hin) hd kk⟩
      · cases h
    · cases h
  · cases h
theorem pm_aaload_ok (C : pm_Cx p s m args meth c mi own Ts Ns D cl dA) (hH : pm_H D cl dA s S H) (hd : decode (pi_b mi) pc = .ok (.aaload, 1)) {X : pm_X} (h : pm_aq (pc + 1) ls st S = some X) :
    ∃ st', X = .inl (pc + 1, ls, st', S) ∧ (W p l e R s m args below meth c H locs cells slots Q (F0 m (pc + 1) lsA st') → W p l e R s m args below meth c H locs cells slots Q (F0 m pc lsA st)) := by
  obtain ⟨hx, hb, hml, hown, hts, hK, hin2, hNs⟩ := C
  unfold pm_aq at h
  split at h
  · rename_i i a r
    split at h
    · rename_i t n f hc
      split at h
      · rename_i hm
        simp only [Bool.and_eq_true, Bool.or_eq_true, decide_eq_true_eq] at hm
        obtain ⟨⟨ht, hm⟩, hin⟩ := hm
        have hin := pm_in_iff.mp hin
        obtain ⟨m1, m2⟩ := pm_my_iff.mp hm
        refine ⟨_, pm_nx_inv h, fun kk => ?_⟩
        rcases ht with rfl | rfl
        · exact va_aldq hx hb hK (hH.W1 m1 m2 hc) 0 4 rfl rfl hin hd kk
        · have hlt : i.toNatClampNeg < n := Nat.not_le.mp fun q => hin (Or.inr q)
          have hcell : H[a]? = some (arrV (dA 5) n (fun j => va_rf (f j))) := hH.cell m1 m2 hc
          exact W.aald (ty := .array .int) hx hb hcell ((hK.2 5 _ rfl).1 n (fun j => va_rf (f j))) rfl (fun q => by cases q) (by rw [arrV_size]; exact hin) (by rw [arrV_read _ _ hlt]) rfl rfl hd kk
      · cases h
    · cases h
  · cases h
theorem pm_len_ok (C : pm_Cx p s m args meth c mi own Ts Ns D cl dA) (hH : pm_H D cl dA s S H) (hd : decode (pi_b mi) pc = .ok (.arraylength, 1)) {X : pm_X} (h : pm_lenS (pc + 1) ls st S = some X) :
    ∃ st', X = .inl (pc + 1, ls, st', S) ∧ (W p l e R s m args below meth c H locs cells slots Q (F0 m (pc + 1) lsA st') → W p l e R s m args below meth c H locs cells slots Q (F0 m pc lsA st)) := by
  obtain ⟨hx, hb, hml, hown, hts, hK, hin2, hNs⟩ := C
  have key : pm_len (pc + 1) ls st S = some X → ∃ st', X = .inl (pc + 1, ls, st', S) ∧ (W p l e R s m args below meth c H locs cells slots Q (F0 m (pc + 1) lsA st') → W p l e R s m args below meth c H locs cells slots Q (F0 m pc lsA st)) := by
    intro h
    unfold pm_len at h
    split at h
    · rename_i a r
      split at h
      · rename_i t n x hc
        split at h
        · rename_i hm
          simp only [Bool.and_eq_true, decide_eq_true_eq] at hm
          obtain ⟨hm, ht⟩ := hm
          obtain ⟨m1, m2⟩ := pm_my_iff.mp hm
          refine ⟨_, pm_nx_inv h, fun kk => ?_⟩
          obtain ⟨ty, hty⟩ : ∃ ty, (pm_tys dA)[t]? = some (dA t, ty) := by
            rcases (show t = 0 ∨ t = 1 ∨ t = 2 ∨ t = 3 ∨ t = 4 ∨ t = 5 by omega) with rfl | rfl | rfl | rfl | rfl | rfl <;> exact ⟨_, rfl⟩
          exact va_alen hx hb hK (hH.W1 m1 m2 hc (by simp [pm_g]; omega)) 0 t rfl hty rfl hd kk
        · cases h
      · cases h
    · cases h
  unfold pm_lenS at h
  split at h
  · rename_i a r
    split at h
    · rename_i t n f hc
      split at h
      · rename_i ht
        simp only [decide_eq_true_eq] at ht
        subst ht
        obtain ⟨g1, scr, k1, k2, k3, k4, k5⟩ := hH.2.2.2 a n f hc
        exact ⟨_, pm_nx_inv h, fun kk => W.alen hx hb k1 k2 (by rw [k4]) rfl rfl hd kk⟩
      · exact key h
    · exact key h
  · cases h
/-- what a store leaves -/
def pm_G1 (p : Program) (l : Launch) (e : Env) (R : Room) (s : State) (m : MethodId) (args : Array Value) (below : List Frame) (meth : Method) (c : Code) (H : Heap) (locs : List Loc) (cells slots : Nat) (Q : State → Prop) (pc pc' : Nat) (lsA : Array Slot) (S : pm_S) (ls : pm_L) (st : List Value) (D : va_G) (cl : List vw_C) (dA : Nat → ClassId) (X : pm_X) : Prop :=
  ∃ st' S', X = .inl (pc', ls, st', S') ∧ ps_lo S' = ps_lo S ∧ ps_hi S' = ps_hi S ∧ ps_z S' = ps_z S ∧ ((∀ H' locs', pm_H D cl dA s S' H' → va_S (fun q => ps_lo S ≤ q) s.heap H' locs' → W p l e R s m args below meth c H' locs' cells slots Q (F0 m pc' lsA st')) → W p l e R s m args below meth c H locs cells slots Q (F0 m pc lsA st))
theorem pm_upd_i {cA : ClassId} {n i : Nat} {f : Nat → Int32} {x : Int32} {v : Value} (hv : v = .int x) : (arrV cA n (fun j => .int (f j))).setSlot i v = arrV cA n (fun j => .int (upd f i x j)) := by
  subst hv
  rw [arrV_store]
  congr 1
  funext q
  by_cases hq : q = i
  · subst hq
    simp [updV, upd]
  · simp [updV, upd, hq]
theorem pm_si_inv {ts : List Nat} {X : pm_X} (h : pm_si ts pc ls st S = some X) : ∃ x i a r t n f, st = .int x :: .int i :: .ref a :: r ∧ ps_h S a = .inl (t, n, .inl f) ∧ ts.contains t = true ∧ (ps_lo S ≤ a ∧ a < ps_hi S) ∧ vp_in i n ∧ X = .inl (pc, ls, r, pm_wr S a (.inl (t, n, .inl (upd f i.toNatClampNeg (pm_nar t x))))) := by
  unfold pm_si at h
  split at h
  · rename_i x i a r
    split at h
    · rename_i t n f hc
      split at h
      · rename_i hm
        simp only [Bool.and_eq_true] at hm
        exact ⟨x, i, a, r, t, n, f, rfl, hc, hm.1.1, pm_my_iff.mp hm.1.2, pm_in_iff.mp hm.2, pm_nx_inv h⟩
      · cases h
    · cases h
  · cases h
theorem pm_iastore_ok (C : pm_Cx p s m args meth c mi own Ts Ns D cl dA) (hH : pm_H D cl dA s S H) (hS : va_S (fun q => ps_lo S ≤ q) s.heap H locs) (hd : decode (pi_b mi) pc = .ok (.iastore, 1)) {X : pm_X} (h : pm_si [0] (pc + 1) ls st S = some X) :
    pm_G1 p l e R s m args below meth c H locs cells slots Q pc (pc + 1) lsA S ls st D cl dA X := by
  obtain ⟨hx, hb, hml, hown, hts, hK, hin2, hNs⟩ := C
  obtain ⟨x, i, a, r, t, n, f, rfl, hc, ht, ⟨m1, m2⟩, hin, rfl⟩ := pm_si_inv h
  have ht : t = 0 := by simpa using ht
  subst ht
  refine ⟨_, _, rfl, rfl, rfl, rfl, fun kk => ?_⟩
  have hcell : H[a]? = some (arrV (dA 0) n (fun j => .int (f j))) := hH.cell m1 m2 hc
  refine W.iast hx hb hcell ((hK.2 0 _ rfl).1 n (fun j => .int (f j))) (fun q => by cases q) (by rw [arrV_size]; exact hin) rfl rfl hd fun H1 e1 e2 e3 => ?_
  exact kk H1 _ (hH.st m1 m2 (fun _ _ z => by cases z) (pm_at_i (by rw [e1, pm_upd_i rfl]; rfl)) e2 e3) (hS.put e2 e3 m1)
theorem pm_bastore_ok (C : pm_Cx p s m args meth c mi own Ts Ns D cl dA) (hH : pm_H D cl dA s S H) (hS : va_S (fun q => ps_lo S ≤ q) s.heap H locs) (hd : decode (pi_b mi) pc = .ok (.bastore, 1)) {X : pm_X} (h : pm_si [2, 3] (pc + 1) ls st S = some X) :
    pm_G1 p l e R s m args below meth c H locs cells slots Q pc (pc + 1) lsA S ls st D cl dA X := by
  obtain ⟨hx, hb, hml, hown, hts, hK, hin2, hNs⟩ := C
  obtain ⟨x, i, a, r, t, n, f, rfl, hc, ht, ⟨m1, m2⟩, hin, rfl⟩ := pm_si_inv h
  have ht : t = 2 ∨ t = 3 := by simpa using ht
  rcases ht with rfl | rfl
  · refine ⟨_, _, rfl, rfl, rfl, rfl, fun kk => ?_⟩
    have hcell : H[a]? = some (arrV (dA 2) n (fun j => .int (f j))) := hH.cell m1 m2 hc
    refine W.bast hx hb hcell ((hK.2 2 _ rfl).1 n (fun j => .int (f j))) (fun q => by cases q) (by rw [arrV_size]; exact hin) rfl rfl hd fun H1 e1 e2 e3 => ?_
    exact kk H1 _ (hH.st m1 m2 (fun _ _ z => by cases z) (pm_at_i (e1.trans (congrArg some (pm_upd_i (x := vp_nar .byte x) rfl)))) e2 e3) (hS.put e2 e3 m1)
  · refine ⟨_, _, rfl, rfl, rfl, rfl, fun kk => ?_⟩
    have hcell : H[a]? = some (arrV (dA 3) n (fun j => .int (f j))) := hH.cell m1 m2 hc
    refine W.zast hx hb hcell ((hK.2 3 _ rfl).1 n (fun j => .int (f j))) (fun q => by cases q) (by rw [arrV_size]; exact hin) rfl rfl hd fun H1 e1 e2 e3 => ?_
    exact kk H1 _ (hH.st m1 m2 (fun _ _ z => by cases z) (pm_at_i (e1.trans (congrArg some (pm_upd_i (x := vp_nar .boolean x) rfl)))) e2 e3) (hS.put e2 e3 m1)
theorem pm_lastore_ok (C : pm_Cx p s m args meth c mi own Ts Ns D cl dA) (hH : pm_H D cl dA s S H) (hS : va_S (fun q => ps_lo S ≤ q) s.heap H locs) (hd : decode (pi_b mi) pc = .ok (.lastore, 1)) {X : pm_X} (h : pm_sj (pc + 1) ls st S = some X) :
    pm_G1 p l e R s m args below meth c H locs cells slots Q pc (pc + 1) lsA S ls st D cl dA X := by
  obtain ⟨hx, hb, hml, hown, hts, hK, hin2, hNs⟩ := C
  unfold pm_sj at h
  split at h
  · rename_i x i a r
    split at h
    · rename_i t n f hc
      split at h
      · rename_i hm
        simp only [Bool.and_eq_true, decide_eq_true_eq] at hm
        obtain ⟨⟨rfl, hm⟩, hin⟩ := hm
        have hin := pm_in_iff.mp hin
        obtain ⟨m1, m2⟩ := pm_my_iff.mp hm
        refine ⟨_, _, pm_nx_inv h, rfl, rfl, rfl, fun kk => ?_⟩
        have hcell : H[a]? = some (arrV (dA 1) n (fun j => .long (f j))) := hH.cell m1 m2 hc
        refine W.last hx hb hcell ((hK.2 1 _ rfl).1 n (fun j => .long (f j))) (fun q => by cases q) (by rw [arrV_size]; exact hin) rfl rfl hd fun H1 e1 e2 e3 => ?_
        refine kk H1 _ (hH.st m1 m2 (fun _ _ z => by cases z) ?_ e2 e3) (hS.put e2 e3 m1)
        refine pm_at_l ?_
        rw [e1, arrV_store]
        congr 2
        funext q
        by_cases hq : q = i.toNatClampNeg
        · subst hq
          simp [updV, vp_updL]
        · simp [updV, vp_updL, hq]
      · cases h
    · cases h
  · cases h
end PMC
