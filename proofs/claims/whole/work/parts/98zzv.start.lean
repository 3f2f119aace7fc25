def R_law : String := "BuriedPairsLaw"
def lw_P (b : Addr) (xs : List Int32) (args : Array Value) (s : State) : Prop := args = #[.ref b] ∧ s.IntsAt b xs ∧ xs.length ≤ 4608 ∧ (Jvm.Cond.and given_1 narrow_1).before args s = true
def lw_Q (_ : Array Value) (s : State) (o : Outcome) (t : State) : Prop := o = .returned (some (.int 1)) ∧ Framed s o t [] 601024 7293034
def lw_Z (below : List Frame) (a : Array Value) (s : State) : State → Prop := fun t => ∃ o, t.status = .running ∧ Ended t below o ∧ lw_Q a s o t
/-- the law's own end, with 1 on the stack, nothing written that was there before, its room as the claim has it -/
theorem lw_ret {p : Program} {l : Launch} {e : Env} {s : State} {m : MethodId} {below : List Frame} {meth : Method} {c : Code} {b : Nat} (hx : p.tables.exec = Jvm.exec) (hb : c.code = code) (hr : meth.sig.returnType = ret) (hlocks : meth.locks = false) {pc : Nat} {H : Heap} {ls : Array Slot} (hdg : decode code pc = .ok (.ireturn, 1)) : W p l e room_1 s m #[Value.ref b] below meth c H [] 601024 7293034 (lw_Z below #[Value.ref b] s) (F0 m pc ls [.int 1]) := by
  intro T hT X
  obtain ⟨fs, hret, hrun, hended, hW, hframe⟩ := X.leave (v := some (.int 1)) (hlocks := hlocks) (fun h => by rw [hr] at h; cases h)
  have hmeth' : T.vm.method? m = some meth := X.method'
  refine ⟨T.setFrames fs, ?_, .returned (some (.int 1)), hrun, hended, rfl, ⟨_, rfl⟩, hW, hframe⟩
  jvm_step X.here [X.here.top, hx, hb, hdg, hmeth', hr, ret, narrow_b1]
  (try refine ⟨rfl, ?_⟩); (try refine ⟨rfl, ?_⟩)
  first | (intro acts; rw [hret _ acts rfl rfl rfl]) | rw [hret _ _ rfl rfl rfl]
  exact Steps.refl _
/-- what holds at the law's entry: the machine, the code, the tables' words (any of lw_tbl by 'hts w (by decide +kernel)'), the script of L ints xs at the cell b, what the Statement gives of the start (any of its parts by flat_of_before) -/
def lw_At (p : Program) (s : State) (m : MethodId) (meth : Method) (c : Code) (b L : Nat) (xs : Nat → Int32) : Prop :=
  p.tables.exec = Jvm.exec ∧ c.code = code ∧ meth.sig.returnType = ret ∧ c.maxLocals = 7 ∧ s.vm.findClass R_law = some m.cls ∧ (∀ w ∈ lw_tbl, w.before #[Value.ref b] s = true) ∧ va_X b L xs s s.heap ∧ b < s.heap.size ∧ meth.locks = false ∧ (Jvm.Cond.and given_1 narrow_1).before #[Value.ref b] s = true
section WST
theorem tb_in {w : Cond} {i : Nat} (h : tables_1[i]? = some w) : w ∈ lw_tbl := List.mem_append_right _ (pt_n_ok h)
theorem tb_1046 : Cond.castable "java/util/NoSuchElementException" "java/util/NoSuchElementException" ∈ lw_tbl := tb_in (i := 1043) (by decide +kernel)
theorem tb_1047 : Cond.declares ⟨"java/lang/RuntimeException", "<init>", "()V"⟩ ∈ lw_tbl := tb_in (i := 1044) (by decide +kernel)
theorem tb_1049 : Cond.declares ⟨"java/lang/Exception", "<init>", "()V"⟩ ∈ lw_tbl := tb_in (i := 1046) (by decide +kernel)
theorem tb_1051 : Cond.declares ⟨"java/lang/Throwable", "<init>", "()V"⟩ ∈ lw_tbl := tb_in (i := 1048) (by decide +kernel)
theorem tb_1071 : Cond.laysStatic Bundle.tN "UNASSIGNED_STACK" Bundle.steD ∈ lw_tbl := tb_in (i := 1068) (by decide +kernel)
theorem tb_1073 : Cond.laysStatic Bundle.tN "SUPPRESSED_SENTINEL" Bundle.listD ∈ lw_tbl := tb_in (i := 1070) (by decide +kernel)
theorem tb_16 : Cond.initialized Bundle.tN ∈ lw_tbl := tb_in (i := 16) (by decide +kernel)
/-- what a throw needs, at the law's entry -/
theorem thX0 {s : State} {args : Array Value} (hts : ∀ w ∈ lw_tbl, w.before args s = true) (hgv : (Jvm.Cond.and given_1 narrow_1).before args s = true) : thX s.heap.size s s.heap := by
  have hs := flat_of_before _ hgv
  have hU : (Cond.isRef (.static Bundle.tN "UNASSIGNED_STACK" Bundle.steD)).before args s = true := hs _ (by decide +kernel)
  have hN : (Cond.isRef (.static Bundle.tN "SUPPRESSED_SENTINEL" Bundle.listD)).before args s = true := hs _ (by decide +kernel)
  exact ⟨va_Nw.of rfl (hts _ tb_1046), va_Nw.of rfl (hts _ tb_1047), va_Nw.of rfl (hts _ tb_1049), va_Nw.of rfl (hts _ tb_1051), vx_Zqof (hts _ tb_1071) (hts _ tb_16) hU (fun a h1 h2 => absurd h1 (Nat.not_lt.mpr h2)), vx_Zqof (hts _ tb_1073) (hts _ tb_16) hN (fun a h1 h2 => absurd h1 (Nat.not_lt.mpr h2))⟩
set_option maxHeartbeats 4000000 in
/-- from the entry, for every script of at most 4608 ints, the law comes to its end with true -/
theorem whole_start {p : Program} {e : Env} {s : State} {m : MethodId} {below : List Frame} {meth : Method} {c : Code} (l : Launch) (hl0 : l.stackTraces = false) {b L : Nat} {xs : Nat → Int32} (hL : L ≤ 4608) (C0 : lw_At p s m meth c b L xs) : W p l e room_1 s m #[Value.ref b] below meth c s.heap [] 0 0 (lw_Z below #[Value.ref b] s) (entryFrame m ([Value.ref b] : List Value).toArray 7) := by
  obtain ⟨hx, hb, hr, hml, hown, hts, hX, hbl, hlocks, hgv⟩ := C0
  have hT : thX s.heap.size s s.heap := thX0 hts hgv
  obtain ⟨D, dA, C, hK5⟩ := Cx0 (meth := meth) hx hb hml hown hts
  obtain ⟨D', hi', z', s', hF, hhi, hz⟩ := law_ok (h0 := hS0 b L xs) (B := s.heap.size) (D := fun _ => .inl (9, 0)) (s := ((fun _ _ => 0, fun _ _ => 0) : mst)) (N := 2000) (Nat.le_refl _) (hS0_SC hbl hL)
  obtain ⟨n, hev⟩ := f_Law_law (cabF 2000) (spL 2000) spL_c 0 2000 _ b _ hF
  refine pm_ent (mi := mi_Law_law) (As := [.ref b]) (Nat.le_of_ble_eq_true rfl) (fun ls0 hl => ?_)
  have key := pm_walk (p := p) (l := l) (e := e) (R := room_1) (below := below) (Q := lw_Z below #[Value.ref b] s) pG_ok C pt_law_ok hK5 (call := pm_rel pG (spL 2000) (9 + 1)) (d := 10) (callL 10) callL_mono (Nat.le_of_ble_eq_true rfl) (Nat.le_of_ble_eq_true rfl) (out := (some (.int 1), mkM (hS0 b L xs) s.heap.size D' hi' z' s')) (hi0 := s.heap.size) (z0 := 0) (lo := s.heap.size) ?_ ?_ (Nat.le_refl _)
    (fun pc idx mj As st' S S' r lsA H locs hlk hat hlen hd hn h8 hsz h1 hH hc hs hh hz hlo hS => lc_X8 hl0 C hK5 hT (Nat.le_of_ble_eq_true rfl) (Nat.le_of_ble_eq_true rfl) hlk hlen hd hn h8 hsz h1 hH hc hs hh hz hlo hS)
    ?_ n 0 [some (.ref b), none, none, none, none, none, none] [] (mkM (hS0 b L xs) s.heap.size (fun _ => .inl (9, 0)) 0 0 ((fun _ _ => 0, fun _ _ => 0) : mst)) ls0 s.heap [] hev hl (pm_H0 hX hbl) va_S.rf rfl (Nat.le_refl _) (Nat.le_refl _)
  · have e1 : ps_hi (mkM (hS0 b L xs) s.heap.size (fun _ => .inl (9, 0)) 0 0 ((fun _ _ => 0, fun _ _ => 0) : mst)) - s.heap.size = 0 := Nat.sub_self _
    rw [e1] at key
    exact key
  · show s.heap.size + hi' - s.heap.size ≤ 601024
    omega
  · show z' - 0 ≤ 7293034
    omega
  · intro pc i ls st lsA H locs hs hdd hH' hS' hlo'
    have hd : pm_il i ≠ 0 → decode (pi_b mi_Law_law) pc = .ok (i, pm_il i) := fun hn => by
      obtain ⟨len, hd0, hlen⟩ := hdd
      rcases hlen with hz | hz
      · exact absurd hz hn
      · rw [← hz]; exact hd0
    rcases pm_stp_rt hs with ⟨x, ty, rfl, rfl, hv, hrt, hn⟩ | ⟨x, rfl, rfl, hv, hrt⟩ | ⟨x, C, rfl, rfl, hv, hrt, hx⟩ | ⟨rfl, rfl, hv, hrt⟩
    · have hv : (1 : Int32) = x := Value.int.inj (Option.some.inj hv)
      subst hv
      refine va_forget hS'.2.2 ?_
      refine W.widen (k := 601024) (n := 7293034) ?_ ?_ (lw_ret hx hb hr hlocks (hd (by simp [pm_il])))
      · show s.heap.size + hi' - s.heap.size ≤ 601024
        omega
      · show z' - 0 ≤ 7293034
        omega
    · exact absurd (Option.some.inj hv) (fun z => by cases z)
    · exact absurd (show some FieldType.boolean = some (FieldType.object C) from hrt) (fun z => by cases z)
    · exact absurd hv (fun z => by cases z)
end WST
