/-! ===== what a throw needs; BuriedPairs.cable where it throws ===== -/
def thX (lo : Nat) (U : State) (H : Heap) : Prop := va_Nw (.castable "java/util/NoSuchElementException" "java/util/NoSuchElementException") U ∧ va_Nw (.declares ⟨"java/lang/RuntimeException", "<init>", "()V"⟩) U ∧ va_Nw (.declares ⟨"java/lang/Exception", "<init>", "()V"⟩) U ∧ va_Nw (.declares ⟨"java/lang/Throwable", "<init>", "()V"⟩) U ∧ vx_Zq Bundle.tN "UNASSIGNED_STACK" Bundle.steD (fun q => lo ≤ q) U H ∧ vx_Zq Bundle.tN "SUPPRESSED_SENTINEL" Bundle.listD (fun q => lo ≤ q) U H
section THX
variable {s U : State} {H H1 : Heap} {lo : Nat} {args : Array Value}
theorem thX.warm (hW : s.WarmedH U.vm) (h : thX lo s H) : thX lo U H := ⟨va_Nw.warmC hW h.1, va_Nw.warmD hW h.2.1, va_Nw.warmD hW h.2.2.1, va_Nw.warmD hW h.2.2.2.1, vx_Zq.moved hW.alike h.2.2.2.2.1, vx_Zq.moved hW.alike h.2.2.2.2.2⟩
theorem thX.same (hv : s.vm = U.vm) (h : thX lo s H) : thX lo U H := thX.warm (by rw [← hv]; exact State.WarmedH.refl s) h
theorem thX.kept (hq : ∀ a : Nat, a < H.size → ¬ lo ≤ a → H1[a]? = H[a]?) (h : thX lo s H) : thX lo s H1 := ⟨h.1, h.2.1, h.2.2.1, h.2.2.2.1, h.2.2.2.2.1.kept hq, h.2.2.2.2.2.kept hq⟩
def thB : List Cond := [.castable "java/util/NoSuchElementException" "java/util/NoSuchElementException", .declares ⟨"java/lang/RuntimeException", "<init>", "()V"⟩, .declares ⟨"java/lang/Exception", "<init>", "()V"⟩, .declares ⟨"java/lang/Throwable", "<init>", "()V"⟩]
set_option maxRecDepth 100000 in
theorem thW_in : ∀ w ∈ (vx_at0 "BuriedPairs" 83 "java/util/NoSuchElementException" ["java/lang/RuntimeException", "java/lang/Exception"]).filter goodWord, w ∈ lw_tbl := by decide +kernel
set_option maxRecDepth 100000 in
theorem thW_no : ∀ w ∈ (vx_at0 "BuriedPairs" 83 "java/util/NoSuchElementException" ["java/lang/RuntimeException", "java/lang/Exception"]).filter (fun w => !goodWord w), w ∈ thB := by decide +kernel
set_option maxRecDepth 100000 in
theorem thW_ot : ∀ w ∈ Cond.classLink "BuriedPairs" 81 "java/util/NoSuchElementException" :: Cond.initialized "java/util/NoSuchElementException" :: vx_at0 "BuriedPairs" 83 "java/util/NoSuchElementException" ["java/lang/RuntimeException", "java/lang/Exception"], vx_ot w = true := by decide +kernel
theorem thX.words (hts : ∀ w ∈ pt_Ts, w.before args s = true) (h : thX lo s H) : ∀ w ∈ vx_at0 "BuriedPairs" 83 "java/util/NoSuchElementException" ["java/lang/RuntimeException", "java/lang/Exception"], w.before args s = true := by
  refine vx_hat (B := thB) (fun w hw => hts w (List.mem_filter.mpr ⟨thW_in w hw, (List.mem_filter.mp hw).2⟩)) thW_no ?_
  exact vx_c (va_Nw.use rfl h.1) (vx_c (va_Nw.use rfl h.2.1) (vx_c (va_Nw.use rfl h.2.2.1) (vx_c (va_Nw.use rfl h.2.2.2.1) vx_n)))
end THX
/-- the heap behind a throw -/
def thS (S : pm_S) : pm_S := pm_al S 6 (.inl (9, 0, .inl (fun _ => 0)))
def pm_PcX (D : va_G) (dA : Nat → ClassId) (As : List Value) (S : pm_S) : Array Value → State → Prop := va_Pc As (fun U => (pm_H D pt_cl dA U S U.heap ∧ va_K D pt_cl (pm_tys dA) U ∧ pm_K5 dA U ∧ pm_N tables_1 U) ∧ thX (ps_lo S) U U.heap)
def thrX (D : va_G) (dA : Nat → ClassId) (S : pm_S) : String → State → State → Prop := fun E st t => E = "java/util/NoSuchElementException" ∧ pm_H D pt_cl dA t (thS S) t.heap ∧ va_F (fun q => ps_lo S ≤ q) st t
theorem pm_blindX {D : va_G} {dA : Nat → ClassId} {As : List Value} {S : pm_S} : FrameBlind (pm_PcX D dA As S) :=
  fun a U g mk h => ⟨h.1, ⟨pm_H.moved (u := U) (U := U.calling g mk a) (Vm.Alike.refl U.vm) h.2.1.1, va_K.moved (u := U) (U := U.calling g mk a) (Vm.Alike.refl U.vm) h.2.1.2.1, pm_K5.moved (u := U) (U := U.calling g mk a) (Vm.Alike.refl U.vm) h.2.1.2.2.1, pm_N.same (s := U) (U := U.calling g mk a) rfl h.2.1.2.2.2⟩, thX.same (s := U) (U := U.calling g mk a) rfl h.2.2⟩
theorem rcv_inv {S : pm_S} {a ci : Nat} (h : rcv S a ci = true) : ∃ fs, ps_h S a = .inr (ci, fs) ∧ ps_lo S ≤ a ∧ a < ps_hi S := by
  unfold rcv at h
  split at h
  · rename_i cj fs e
    simp only [Bool.and_eq_true, decide_eq_true_eq] at h
    obtain ⟨h1, rfl⟩ := h
    exact ⟨fs, e, pm_my_iff.mp h1⟩
  · cases h
section THR
variable {p : Program} {l : Launch} {e : Env} {R : Room} {s : State} {m : MethodId} {args : Array Value} {below : List Frame} {meth : Method} {c : Code} {H : Heap} {locs : List Loc} {cells slots : Nat} {Q : State → Prop} {mi : pm_I} {pc pc' : Nat} {lsA : Array Slot} {S : pm_S} {ls ls' : pm_L} {st st' : List Value} {own : String} {D : va_G} {dA : Nat → ClassId} {i : Instr}
theorem pm_ent {As : List Value} (hlen : (lg_sl As).length ≤ pi_L mi) (k : ∀ lsA : Array Slot, pm_lv lsA (pi_L mi) (lent (pi_L mi) As) → W p l e R s m args below meth c H locs cells slots Q (F0 m 0 lsA [])) : W p l e R s m args below meth c H locs cells slots Q (entryFrame m As.toArray (pi_L mi)) := by
  have hl := lv_entry As (n := pi_L mi) hlen
  rw [lg_entry_eq]
  generalize (lg_sl As ++ List.replicate (pi_L mi - (lg_sl As).length) Slot.unset).toArray = ls at hl ⊢
  exact k ls (lent_ok hl)
/-- a step that touches no cell -/
theorem pm_qs (k : Nat) (S : pm_S) (hx : p.tables.exec = Jvm.exec) (hb : c.code = pi_b mi) (hok : ∀ q ∈ pi_c mi, ∃ len, decode (pi_b mi) q.1 = .ok (q.2, len) ∧ (pm_il q.2 = 0 ∨ len = pm_il q.2)) (hk : (pi_c mi)[k]? = some (pc, i)) (hq : pm_quiet i = true) (h : pm_stp pG mi pc i ls st S = some (.inl (pc', ls', st', S))) (hl : pm_lv lsA (pi_L mi) ls)
    (kk : ∀ lsA' : Array Slot, pm_lv lsA' (pi_L mi) ls' → W p l e R s m args below meth c H locs cells slots Q (F0 m pc' lsA' st')) : W p l e R s m args below meth c H locs cells slots Q (F0 m pc lsA st) := by
  obtain ⟨pc2, ls2, st2, hX, k2⟩ := pm_quiet_ok (l := l) (e := e) (R := R) (s := s) (m := m) (args := args) (below := below) (meth := meth) (H := H) (locs := locs) (cells := cells) (slots := slots) (Q := Q) hx hb (hok _ (List.mem_of_getElem? hk)) hq h hl
  cases hX
  exact k2 kk
/-- a call that leaves the heap as it was -/
theorem pm_vc {N d idx a : Nat} {mj : pm_I} {Bs : List Value} {r : Option Value} (C : pm_Cx p s m args meth c mi own pt_Ts tables_1 D pt_cl dA) (hK5 : pm_K5 dA s) (hsz : lsA.size = pi_L mi) (hH : pm_H D pt_cl dA s S H) (hS : va_S (fun q => ps_lo S ≤ q) s.heap H locs) (hd : decode (pi_b mi) pc = .ok (.invokevirtual idx, 3)) (hOM : pm_OM pt_cl pt_Ts tables_1 pt_cn own idx mj 1) (hcv : rcv S a (pi_co mj) = true)
    (hrel : pm_rel pG (spL N) d mj (.ref a :: Bs) S (r, S)) (hlen : (lg_sl (.ref a :: Bs)).length ≤ pi_L mj) (hn : Bs.length = pi_na mj) (h8 : (st'.map fun v => v.category).sum ≤ 8) (hfr : d + 1 ≤ R.frames) (hlo : 41 * (d + 1) ≤ R.locals) (hc : cells ≤ R.cells) (hs : slots ≤ R.slots)
    (kk : ∀ (H1 : Heap) (locs1 : List Loc), pm_H D pt_cl dA s S H1 → va_S (fun q => ps_lo S ≤ q) s.heap H1 locs1 → W p l e R s m args below meth c H1 locs1 cells slots Q (F0 m (pc + 3) lsA (r.toList ++ st'))) : W p l e R s m args below meth c H locs cells slots Q (F0 m pc lsA (Bs.reverse ++ .ref a :: st')) := by
  obtain ⟨fs, e1, e2, e3⟩ := rcv_inv hcv
  have z1 : ps_hi S - ps_hi S = 0 := Nat.sub_self _
  have z2 : ps_z S - ps_z S = 0 := Nat.sub_self _
  have run := pm_run (l := l) (e := e) (R := R) (below := below) (locs := locs) (cells := cells) (slots := slots) (pc := pc) (out := (r, S)) pG_ok C hK5 hsz hH (fun hmo => callL d mj _ S (r, S) hrel hlen hmo) hOM hfr hlo (by dsimp only; omega) (by dsimp only; omega) h8 (Or.inr (Or.inl ⟨a, Bs, fs, rfl, hd, hn, rfl, rfl, e1, e2, e3⟩))
  refine pm_callW (out := (r, S)) (mc := ps_hi S - ps_hi S) (ms := ps_z S - ps_z S) run hS (fun H1 locs1 h1 h2 => ?_)
  rw [z1, z2]
  exact kk H1 locs1 h1 h2
theorem dBc_2 : decode (pi_b mi_BP_cable) 2 = .ok (.invokevirtual 74, 3) := by decide +kernel
theorem dBc_15 : decode (pi_b mi_BP_cable) 15 = .ok (.invokevirtual 78, 3) := by decide +kernel
theorem dBc_18 : decode (pi_b mi_BP_cable) 18 = .ok (.ifCond .eq 12, 3) := by decide +kernel
theorem dBc_22 : decode (pi_b mi_BP_cable) 22 = .ok (.ifCond .lt 8, 3) := by decide +kernel
theorem dBc_27 : decode (pi_b mi_BP_cable) 27 = .ok (.if_icmp .le 11, 3) := by decide +kernel
theorem dBc_30 : decode (pi_b mi_BP_cable) 30 = .ok (.new 81, 3) := by decide +kernel
theorem dBc_33 : decode (pi_b mi_BP_cable) 33 = .ok (.dup, 1) := by decide +kernel
theorem dBc_34 : decode (pi_b mi_BP_cable) 34 = .ok (.invokespecial 83, 3) := by decide +kernel
theorem dBc_37 : decode (pi_b mi_BP_cable) 37 = .ok (.athrow, 1) := by decide +kernel
theorem wBc_81 : Cond.classLink "BuriedPairs" 81 "java/util/NoSuchElementException" ∈ pt_Ts := pt_w_ok (i := 1041) (by decide +kernel)
theorem wBc_in : Cond.initialized "java/util/NoSuchElementException" ∈ pt_Ts := pt_w_ok (i := 19) (by decide +kernel)
theorem thS_H {t : State} (hH : pm_H D pt_cl dA s S H) (hal : s.vm.Alike t.vm) (hz : t.heap.size = H.size + 1) (hk : ∀ q : Nat, q < H.size → t.heap[q]? = H[q]?) : pm_H D pt_cl dA t (thS S) t.heap := by
  have h1 := hH.1
  refine pm_H.al (pm_H.moved hal hH) (fun n f e => ?_) (by rw [hz, h1]) (fun hg => absurd (show true = false from hg) (by decide)) (fun q hq => hk q (by rw [h1]; exact hq))
  have e2 := congrArg Prod.fst (Sum.inl.inj e)
  exact absurd (show (9 : Nat) = 6 from e2) (by decide)
theorem thS_F {t : State} (hS : va_S (fun q => ps_lo S ≤ q) s.heap H locs) (hz : t.heap.size = H.size + 1) (hk : ∀ q : Nat, q < H.size → t.heap[q]? = H[q]?) : va_F (fun q => ps_lo S ≤ q) s t := by
  have h1 := hS.1
  exact ⟨by omega, fun q q1 q2 => (hk q (Nat.lt_of_lt_of_le q1 h1)).trans (hS.2.1 q q1 q2)⟩
/-- the throw itself -/
theorem thrE {Qc : Array Value → State → Outcome → State → Prop} (hl0 : l.stackTraces = false) (C : pm_Cx p s m args meth c mi_BP_cable "BuriedPairs" pt_Ts tables_1 D pt_cl dA) (hX : thX (ps_lo S) s s.heap) (hout : ∀ x ∈ c.exceptionTable.toList, False) (hlocks : meth.locks = false) (r1 : 6 ≤ R.frames) (r2 : 123 ≤ R.locals) (r3 : 1 ≤ R.cells) (r4 : 6 ≤ R.slots) (hsz : lsA.size = 5) (hH : pm_H D pt_cl dA s S H) (hS : va_S (fun q => ps_lo S ≤ q) s.heap H locs) :
    W p l e R s m args below meth c H locs 0 0 (vx_MQ below Qc (thrX D dA S) args s 1 6 (fun q => ps_lo S ≤ q)) (F0 m 30 lsA []) := by
  obtain ⟨hx, hb, hml, hown, hts, hK, hin2, hNs⟩ := C
  refine vx_throw0 (names := ["java/lang/RuntimeException", "java/lang/Exception"]) (ik := 81) (ic := 83) (cls := "java/util/NoSuchElementException") (own := "BuriedPairs") (A := fun q => ps_lo S ≤ q) (cc := pi_b mi_BP_cable) (pc := 30) hx hb hl0 hown (by decide +kernel) (by decide +kernel) (hts _ wBc_81) (hts _ wBc_in) (thX.words hts hX) thW_ot hX.2.2.2.2.1 hX.2.2.2.2.2 hS (hsz.trans hml.symm) dBc_30 dBc_33 dBc_34 dBc_37 (fun x hx => (hout x hx).elim) ?_ ?_ ?_ ?_ hlocks (fun t hal hz hk => ⟨rfl, thS_H hH hal hz hk, thS_F hS hz hk⟩) hS.2.2 (Nat.le_refl _) (Nat.le_refl _)
  · show 2 + 3 < R.frames
    omega
  · show 0 + (13 * (2 + 1) + 42) ≤ R.locals
    omega
  · omega
  · omega
set_option maxHeartbeats 4000000 in
theorem thrW {N a : Nat} {p0 p1 p2 : Int32} {Qc : Array Value → State → Outcome → State → Prop} (hl0 : l.stackTraces = false) (C : pm_Cx p s m args meth c mi_BP_cable "BuriedPairs" pt_Ts tables_1 D pt_cl dA) (hK5 : pm_K5 dA s) (hX : thX (ps_lo S) s s.heap) (hout : ∀ x ∈ c.exceptionTable.toList, False) (hlocks : meth.locks = false) (r1 : 6 ≤ R.frames) (r2 : 123 ≤ R.locals) (r3 : 1 ≤ R.cells) (r4 : 6 ≤ R.slots) (h : thrC N S a p0 p1 p2) (hH : pm_H D pt_cl dA s S s.heap)
    (hl : pm_lv lsA 5 [some (.ref a), some (.int p0), some (.int p1), some (.int p2), none]) : W p l e R s m args below meth c s.heap [] 0 0 (vx_MQ below Qc (thrX D dA S) args s 1 6 (fun q => ps_lo S ≤ q)) (F0 m 0 lsA []) := by
  have fin := fun (lsB : Array Slot) (H : Heap) (locs : List Loc) (hsz : lsB.size = 5) (hH : pm_H D pt_cl dA s S H) (hS : va_S (fun q => ps_lo S ≤ q) s.heap H locs) => thrE (p := p) (e := e) (below := below) (Qc := Qc) hl0 C hX hout hlocks r1 r2 r3 r4 hsz hH hS
  have hok := ok_mi_BP_cable.2.2.2.2.2.2.2
  obtain ⟨hx, hb, hml, hown, hts, hK, hin2, hNs⟩ := id C
  obtain ⟨h1, h2⟩ := h
  refine pm_qs (mi := mi_BP_cable) (ls' := [some (.ref a), some (.int p0), some (.int p1), some (.int p2), none]) (st' := [.ref a]) (pc' := 1) 0 S hx hb hok rfl rfl rfl hl (fun ls1 hl1 => ?_)
  refine pm_qs (mi := mi_BP_cable) (ls' := [some (.ref a), some (.int p0), some (.int p1), some (.int p2), none]) (st' := [.int p0, .ref a]) (pc' := 2) 1 S hx hb hok rfl rfl rfl hl1 (fun ls2 hl2 => ?_)
  rcases h2 with h2 | ⟨q, h2, h3⟩
  · refine pm_vc (N := N) (d := 1) (Bs := [.int p0]) (st' := []) C hK5 hl2.1 hH va_S.rf dBc_2 lk_10_74 h1 (f_BP_planAt (spL N) 0 N S a p0 _ h2) (Nat.le_of_ble_eq_true rfl) rfl (Nat.le_of_ble_eq_true rfl) (by omega) (by omega) (Nat.zero_le _) (Nat.zero_le _) (fun H1 locs1 hH1 hS1 => ?_)
    refine pm_qs (mi := mi_BP_cable) (ls' := [some (.ref a), some (.int p0), some (.int p1), some (.int p2), some .null]) (st' := []) (pc' := 7) 3 S hx hb hok rfl rfl rfl hl2 (fun ls3 hl3 => ?_)
    refine pm_qs (mi := mi_BP_cable) (ls' := [some (.ref a), some (.int p0), some (.int p1), some (.int p2), some .null]) (st' := [.null]) (pc' := 9) 4 S hx hb hok rfl rfl rfl hl3 (fun ls4 hl4 => ?_)
    refine pm_qs (mi := mi_BP_cable) (ls' := [some (.ref a), some (.int p0), some (.int p1), some (.int p2), some .null]) (st' := []) (pc' := 30) 5 S hx hb hok rfl rfl rfl hl4 (fun ls5 hl5 => ?_)
    exact fin ls5 H1 locs1 hl5.1 hH1 hS1
  · refine pm_vc (N := N) (d := 1) (Bs := [.int p0]) (st' := []) C hK5 hl2.1 hH va_S.rf dBc_2 lk_10_74 h1 (f_BP_planAt (spL N) 0 N S a p0 _ h2) (Nat.le_of_ble_eq_true rfl) rfl (Nat.le_of_ble_eq_true rfl) (by omega) (by omega) (Nat.zero_le _) (Nat.zero_le _) (fun H1 locs1 hH1 hS1 => ?_)
    refine pm_qs (mi := mi_BP_cable) (ls' := [some (.ref a), some (.int p0), some (.int p1), some (.int p2), some (.ref q)]) (st' := []) (pc' := 7) 3 S hx hb hok rfl rfl rfl hl2 (fun ls3 hl3 => ?_)
    refine pm_qs (mi := mi_BP_cable) (ls' := [some (.ref a), some (.int p0), some (.int p1), some (.int p2), some (.ref q)]) (st' := [.ref q]) (pc' := 9) 4 S hx hb hok rfl rfl rfl hl3 (fun ls4 hl4 => ?_)
    refine pm_qs (mi := mi_BP_cable) (ls' := [some (.ref a), some (.int p0), some (.int p1), some (.int p2), some (.ref q)]) (st' := []) (pc' := 12) 5 S hx hb hok rfl rfl rfl hl4 (fun ls5 hl5 => ?_)
    refine pm_qs (mi := mi_BP_cable) (ls' := [some (.ref a), some (.int p0), some (.int p1), some (.int p2), some (.ref q)]) (st' := [.ref q]) (pc' := 14) 6 S hx hb hok rfl rfl rfl hl5 (fun ls6 hl6 => ?_)
    refine pm_qs (mi := mi_BP_cable) (ls' := [some (.ref a), some (.int p0), some (.int p1), some (.int p2), some (.ref q)]) (st' := [.int p1, .ref q]) (pc' := 15) 7 S hx hb hok rfl rfl rfl hl6 (fun ls7 hl7 => ?_)
    rcases h3 with h3 | ⟨h3, h4⟩
    · refine pm_vc (N := N) (d := 2) (Bs := [.int p1]) (st' := []) C hK5 hl7.1 hH1 hS1 dBc_15 lk_10_78 (g_Plan_hasCable h3) (f_Plan_hasCable (spL N) 0 N S q p1 _ h3) (Nat.le_of_ble_eq_true rfl) rfl (Nat.le_of_ble_eq_true rfl) (by omega) (by omega) (Nat.zero_le _) (Nat.zero_le _) (fun H2 locs2 hH2 hS2 => ?_)
      exact lv_if_eq hx hb dBc_18 (tgt := 30) rfl (fun _ => fin ls7 H2 locs2 hl7.1 hH2 hS2) (fun z => absurd rfl z)
    · refine pm_vc (N := N) (d := 2) (Bs := [.int p1]) (st' := []) C hK5 hl7.1 hH1 hS1 dBc_15 lk_10_78 (g_Plan_hasCable h3) (f_Plan_hasCable (spL N) 0 N S q p1 _ h3) (Nat.le_of_ble_eq_true rfl) rfl (Nat.le_of_ble_eq_true rfl) (by omega) (by omega) (Nat.zero_le _) (Nat.zero_le _) (fun H2 locs2 hH2 hS2 => ?_)
      refine lv_if_eq hx hb dBc_18 (tgt := 30) rfl (fun z => absurd (show (1 : Int32) = 0 from z) (by decide)) (fun _ => ?_)
      refine pm_qs (mi := mi_BP_cable) (ls' := [some (.ref a), some (.int p0), some (.int p1), some (.int p2), some (.ref q)]) (st' := [.int p2]) (pc' := 22) 10 S hx hb hok rfl rfl rfl hl7 (fun ls8 hl8 => ?_)
      refine lv_if_lt hx hb dBc_22 (tgt := 30) rfl (fun _ => fin ls8 H2 locs2 hl8.1 hH2 hS2) (fun z => ?_)
      refine pm_qs (mi := mi_BP_cable) (ls' := [some (.ref a), some (.int p0), some (.int p1), some (.int p2), some (.ref q)]) (st' := [.int p2]) (pc' := 26) 12 S hx hb hok rfl rfl rfl hl8 (fun ls9 hl9 => ?_)
      refine pm_qs (mi := mi_BP_cable) (ls' := [some (.ref a), some (.int p0), some (.int p1), some (.int p2), some (.ref q)]) (st' := [.int 3, .int p2]) (pc' := 27) 13 S hx hb hok rfl rfl rfl hl9 (fun lsa hla => ?_)
      exact lv_icmp_le hx hb dBc_27 (tgt := 38) rfl (fun y => absurd y (h4.resolve_left z)) (fun _ => fin lsa H2 locs2 hla.1 hH2 hS2)
end THR
theorem thrM {N : Nat} {l : Launch} (hl0 : l.stackTraces = false) {S : pm_S} {a : Nat} {p0 p1 p2 : Int32} (h : thrC N S a p0 p1 p2) (D : va_G) (dA : Nat → ClassId) :
    vx_Met l (pi_y mi_BP_cable) (Cond.code (pi_y mi_BP_cable) (pi_b mi_BP_cable) (pi_L mi_BP_cable) (pi_r mi_BP_cable) :: pt_Ts) { frames := 9, cells := 1, slots := 6, locals := 369 } (pm_PcX D dA [.ref a, .int p0, .int p1, .int p2] S) (fun _ _ _ _ => False) (thrX D dA S) 1 6 (fun q => ps_lo S ≤ q) := by
  refine vx_ofW (cc := pi_b mi_BP_cable) (maxL := pi_L mi_BP_cable) (ret := pi_r mi_BP_cable) ok_mi_BP_cable.2.2.2.2.1 rfl ?_
  intro p e s m args below meth c s₁ B hml hout hv
  obtain ⟨rfl, ⟨hH, hK, hK5, hNs⟩, hX⟩ := hv
  have hts0 := atoms_spec (ws := Cond.code (pi_y mi_BP_cable) (pi_b mi_BP_cable) (pi_L mi_BP_cable) (pi_r mi_BP_cable) :: pt_Ts) B.pre
  have hown : s.vm.findClass "BuriedPairs" = some m.cls := findClass_of_methodNamed B.named
  refine pm_ent (mi := mi_BP_cable) (As := [.ref a, .int p0, .int p1, .int p2]) (Nat.le_of_ble_eq_true rfl) (fun ls0 hl => ?_)
  exact thrW (N := N) hl0 ⟨B.exec, B.bytes, hml, hown, fun w hw => hts0 w (List.mem_cons_of_mem _ hw), hK, fun z => (by cases z), hNs⟩ hK5 hX hout B.notSynchronized (Nat.le_of_ble_eq_true rfl) (Nat.le_of_ble_eq_true rfl) (Nat.le_of_ble_eq_true rfl) (Nat.le_of_ble_eq_true rfl) h hH hl
