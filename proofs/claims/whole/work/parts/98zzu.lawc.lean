/-! ===== the law's cable: its contract ===== -/
def lcW : Cond := Cond.codeWith (pi_y mi_Law_cable) (pi_b mi_Law_cable) (pi_L mi_Law_cable) (pi_r mi_Law_cable) [(0, 12, 15, 13)]
theorem lcW_in : lcW ∈ pt_Ts := pt_w_ok (i := 1035) (by decide +kernel)
theorem lc_st : Cond.static (pi_y mi_Law_cable) ∈ pt_Ts := pt_w_ok (i := 1034) (by decide +kernel)
theorem lc_ml : Cond.methodLink "BuriedPairsLaw" 38 (pi_y mi_Law_cable) ∈ pt_Ts := pt_w_ok (i := 1033) (by decide +kernel)
theorem lc_in : Cond.initialized "BuriedPairsLaw" ∈ pt_Ts := pt_w_ok (i := 0) (by decide +kernel)
theorem lc_13 : Cond.classLink "BuriedPairsLaw" 13 "java/util/NoSuchElementException" ∈ pt_Ts := pt_w_ok (i := 1036) (by decide +kernel)
theorem lc_7 : Cond.methodLink "BuriedPairsLaw" 7 (pi_y mi_BP_cable) ∈ pt_Ts := pt_w_ok (i := 1037) (by decide +kernel)
theorem lc_good : GoodIn pt_Ts (va_wsS "BuriedPairsLaw" 38 (pi_y mi_Law_cable) (lcW :: pt_Ts)) := by
  have g : ∀ w, w ∈ pt_Ts → w ∈ pt_Ts ∧ ((w.onTables && w.keeps) = true ∨ ∃ ty, w = .arrayClass ty) := fun w h => ⟨h, good_of_word (pG_ok.1 w h)⟩
  intro w hw
  rcases List.mem_append.mp hw with h | h
  · rcases List.mem_cons.mp h with rfl | h
    · exact g _ lc_ml
    · rcases List.mem_cons.mp h with rfl | h
      · exact g _ lc_st
      · rcases List.mem_cons.mp h with rfl | h
        · exact g _ lc_in
        · exact absurd h List.not_mem_nil
  · rcases List.mem_cons.mp h with rfl | h
    · exact g _ lcW_in
    · exact g _ h
theorem lc_all : (pi_c mi_Law_cable).all (pt_dec (pi_b mi_Law_cable)) = true := by decide +kernel
theorem lc_ok : ∀ q ∈ pi_c mi_Law_cable, ∃ len, decode (pi_b mi_Law_cable) q.1 = .ok (q.2, len) ∧ (pm_il q.2 = 0 ∨ len = pm_il q.2) := fun q h => pt_dec_ok (List.all_eq_true.mp lc_all q h)
theorem lc_d7 : decode (pi_b mi_Law_cable) 7 = .ok (.invokevirtual 7, 3) := by decide +kernel
theorem lc_d18 : decode (pi_b mi_Law_cable) 18 = .ok (.ireturn, 1) := by decide +kernel
def isSt (i : Instr) : Bool := match i with
  | .invokestatic _ => true
  | _ => false
theorem lc_noS {pc idx : Nat} : pm_at mi_Law_cable pc ≠ some (.invokestatic idx) := by
  intro h
  unfold pm_at at h
  obtain ⟨q, h1, h2⟩ := Option.map_eq_some_iff.mp h
  have h3 := List.all_eq_true.mp (show (pi_c mi_Law_cable).all (fun q => !isSt q.2) = true from rfl) q (List.mem_of_find?_eq_some h1)
  rw [h2] at h3
  exact absurd (show false = true from h3) (by decide)
section LCB
variable {p : Program} {l : Launch} {e : Env} {R : Room} {s : State} {m : MethodId} {args : Array Value} {below : List Frame} {meth : Method} {c : Code} {H : Heap} {locs : List Loc} {cells slots : Nat} {lsA : Array Slot} {S : pm_S} {D : va_G} {dA : Nat → ClassId} {N a o : Nat} {p0 p1 p2 : Int32}
/-- behind the catch -/
theorem lcE {q : Nat} (C : pm_Cx p s m args meth c mi_Law_cable "BuriedPairsLaw" pt_Ts tables_1 D pt_cl dA) (hK5 : pm_K5 dA s) (hr : meth.sig.returnType = some .int) (hlocks : meth.locks = false) (hl : pm_lv lsA 6 [some (.ref a), some (.int p0), some (.int p1), some (.int p2), some (.ref o), none]) (hH : pm_H D pt_cl dA s (thS S) H) (hS : va_S (fun q => ps_lo S ≤ q) s.heap H locs) :
    W p l e R s m args below meth c H locs 1 6 (MQ below (pm_Q D pt_cl dA (some (.int 1), thS S) (ps_lo S)) args s 1 6 (fun q => ps_lo S ≤ q)) (F0 m 15 lsA [.ref q]) := by
  obtain ⟨hx, hb, hml, hown, hts, hK, hin2, hNs⟩ := C
  refine pm_qs (mi := mi_Law_cable) (ls' := [some (.ref a), some (.int p0), some (.int p1), some (.int p2), some (.ref o), some (.ref q)]) (st' := []) (pc' := 17) 10 S hx hb lc_ok rfl rfl rfl hl (fun ls1 hl1 => ?_)
  refine pm_qs (mi := mi_Law_cable) (ls' := [some (.ref a), some (.int p0), some (.int p1), some (.int p2), some (.ref o), some (.ref q)]) (st' := [.int 1]) (pc' := 18) 11 S hx hb lc_ok rfl rfl rfl hl1 (fun ls2 hl2 => ?_)
  exact W.zret hx hb hr rfl (fun t ht hW => ⟨⟨rfl, by rw [ht]; exact hH.moved hW.alike, va_K.moved hW.alike hK, hK5.moved hW.alike⟩, hS.F ht⟩) hS.2.2 lc_d18 hlocks
set_option maxHeartbeats 4000000 in
theorem lcT (hl0 : l.stackTraces = false) (C : pm_Cx p s m args meth c mi_Law_cable "BuriedPairsLaw" pt_Ts tables_1 D pt_cl dA) (hK5 : pm_K5 dA s) (hX : thX (ps_lo S) s s.heap) (htab : c.exceptionTable.toList = tableOf [(0, 12, 15, 13)]) (hr : meth.sig.returnType = some .int) (hlocks : meth.locks = false) (r1 : 10 ≤ R.frames) (r2 : 410 ≤ R.locals) (r3 : 1 ≤ R.cells) (r4 : 6 ≤ R.slots) (h : thrC N S a p0 p1 p2) (hH : pm_H D pt_cl dA s S s.heap)
    (hl : pm_lv lsA 6 [some (.ref a), some (.int p0), some (.int p1), some (.int p2), some (.ref o), none]) : W p l e R s m args below meth c s.heap [] 0 0 (MQ below (pm_Q D pt_cl dA (some (.int 1), thS S) (ps_lo S)) args s 1 6 (fun q => ps_lo S ≤ q)) (F0 m 0 lsA []) := by
  obtain ⟨hx, hb, hml, hown, hts, hK, hin2, hNs⟩ := id C
  refine pm_qs (mi := mi_Law_cable) (ls' := [some (.ref a), some (.int p0), some (.int p1), some (.int p2), some (.ref o), none]) (st' := [.ref o]) (pc' := 2) 0 S hx hb lc_ok rfl rfl rfl hl (fun ls1 hl1 => ?_)
  refine pm_qs (mi := mi_Law_cable) (ls' := [some (.ref a), some (.int p0), some (.int p1), some (.int p2), some (.ref o), none]) (st' := [.int 0, .ref o]) (pc' := 3) 1 S hx hb lc_ok rfl rfl rfl hl1 (fun ls2 hl2 => ?_)
  refine pm_qs (mi := mi_Law_cable) (ls' := [some (.ref a), some (.int p0), some (.int p1), some (.int p2), some (.ref o), none]) (st' := [.ref a, .int 0, .ref o]) (pc' := 4) 2 S hx hb lc_ok rfl rfl rfl hl2 (fun ls3 hl3 => ?_)
  refine pm_qs (mi := mi_Law_cable) (ls' := [some (.ref a), some (.int p0), some (.int p1), some (.int p2), some (.ref o), none]) (st' := [.int p0, .ref a, .int 0, .ref o]) (pc' := 5) 3 S hx hb lc_ok rfl rfl rfl hl3 (fun ls4 hl4 => ?_)
  refine pm_qs (mi := mi_Law_cable) (ls' := [some (.ref a), some (.int p0), some (.int p1), some (.int p2), some (.ref o), none]) (st' := [.int p1, .int p0, .ref a, .int 0, .ref o]) (pc' := 6) 4 S hx hb lc_ok rfl rfl rfl hl4 (fun ls5 hl5 => ?_)
  refine pm_qs (mi := mi_Law_cable) (ls' := [some (.ref a), some (.int p0), some (.int p1), some (.int p2), some (.ref o), none]) (st' := [.int p2, .int p1, .int p0, .ref a, .int 0, .ref o]) (pc' := 7) 5 S hx hb lc_ok rfl rfl rfl hl5 (fun ls6 hl6 => ?_)
  obtain ⟨fs, e1, e2, e3⟩ := rcv_inv h.1
  obtain ⟨o1, o2, o3, o4, o5, o6, o7, o8⟩ := ok_mi_BP_cable
  have hpre : PreV s s.heap "BuriedPairs" a (pm_PcX D dA [.ref a, .int p0, .int p1, .int p2] S) [.int p0, .int p1, .int p2] := ⟨pm_blindX, va_recv hK (hH.W1 e2 e3 e1) (show pt_cl[10]? = some ("BuriedPairs", _, _) from rfl) (q0 := 0) rfl, fun U hU hW => ⟨rfl, ⟨by rw [hU]; exact hH.moved hW.alike, va_K.moved hW.alike hK, hK5.moved hW.alike, hNs.warm hW⟩, by rw [hU]; exact hX.warm hW⟩⟩
  have run : vx_Run p l e R s m args below meth c s.heap [] 0 0 1 6 (F0 m 7 ls6 [.int p2, .int p1, .int p0, .ref a, .int 0, .ref o]) [.int 0, .ref o] ((fun _ _ _ _ => False : Array Value → State → Outcome → State → Prop) ([.ref a, .int p0, .int p1, .int p2] : List Value).toArray) (thrX D dA S) (fun q => ps_lo S ≤ q) :=
    vx_runV (Ts := pt_Ts) (own := "BuriedPairsLaw") (C := "BuriedPairs") (index := 7) (As := [.int p0, .int p1, .int p2]) (n := 3) (b := a) (rest := [.int 0, .ref o]) ⟨hx, hb, hml, hown, hts⟩ (thrM hl0 h D dA) ⟨callB_of 3 hts (pm_good pG_ok.1 o1) rfl rfl rfl (hts _ o2) (hts _ lc_7) o3 ⟨r1, by show 8 + (5 + 11) + 369 ≤ R.locals; omega⟩, hts _ wa_mi_BP_cable, hts _ wb_mi_BP_cable⟩ hpre rfl rfl hl6.1 rfl (lv_room (Nat.le_of_ble_eq_true rfl)) lc_d7 ⟨by omega, by omega⟩
  intro T hT X
  rcases run T hT X with ⟨v, st₀, t, T', L, h0, X', hL, f1, f2, hf, st⟩ | ⟨q, st₀, t, T', L, E, ce, h0, X', hL, f1, f2, ⟨rfl, hb1, hz, hk⟩, hce, hcv, hcl, st⟩
  · exact False.elim hf
  · rw [h0] at hz hk
    have hal : s.vm.Alike t.vm := by rw [← f2]; exact X'.warmed.alike
    have hS' : va_S (fun q => ps_lo S ≤ q) s.heap T'.heap ([] ++ L) := ⟨by rw [f1]; exact hz, fun q q1 q2 => by rw [f1]; exact hk q q1 q2, fun z hz => hL z (by simpa using hz)⟩
    have kk := lcE (l := l) (e := e) (R := R) (below := below) (q := q) (S := S) (H := T'.heap) (locs := [] ++ L) C hK5 hr hlocks hl6 (by rw [f1]; exact hb1.moved hal.symm) hS'
    obtain ⟨t2, a1, b1⟩ := vx_catch (rest := [.int 0, .ref o]) (pc := 7) (q := q) (H := T'.heap) (ce := ce) hown [] ⟨0, 12, 15, 13⟩ [] htab (fun z hz => absurd hz List.not_mem_nil) rfl (by decide) (hts _ lc_13) (va_Nw.use rfl hX.1) (by rw [f1]; exact hce) hcv hcl kk T' rfl X'
    exact ⟨t2, st.trans a1, b1⟩
end LCB
theorem cabThr {N : Nat} {l : Launch} (hl0 : l.stackTraces = false) {S : pm_S} {a o : Nat} {p0 p1 p2 : Int32} (h : thrC N S a p0 p1 p2) (D : va_G) (dA : Nat → ClassId) :
    Met l (pi_y mi_Law_cable) (lcW :: pt_Ts) { frames := 10, cells := 1, slots := 6, locals := 410 } (pm_PcX D dA [.ref a, .int p0, .int p1, .int p2, .ref o] S) (pm_Q D pt_cl dA (some (.int 1), thS S) (ps_lo S)) 1 6 (fun q => ps_lo S ≤ q) := by
  refine va_MetW (cc := pi_b mi_Law_cable) (maxL := pi_L mi_Law_cable) (ret := pi_r mi_Law_cable) (hh := [(0, 12, 15, 13)]) (by decide +kernel) rfl ?_
  intro p e s m args below meth c s₁ B hml hv
  obtain ⟨rfl, ⟨hH, hK, hK5, hNs⟩, hX⟩ := hv
  have hts0 := atoms_spec (ws := lcW :: pt_Ts) B.pre
  have hown : s.vm.findClass "BuriedPairsLaw" = some m.cls := findClass_of_methodNamed B.named
  refine pm_ent (mi := mi_Law_cable) (As := [.ref a, .int p0, .int p1, .int p2, .ref o]) (Nat.le_of_ble_eq_true rfl) (fun ls0 hl => ?_)
  exact lcT (N := N) hl0 ⟨B.exec, B.bytes, hml, hown, fun w hw => hts0 w (List.mem_cons_of_mem _ hw), hK, fun z => (by cases z), hNs⟩ hK5 hX (vx_table (x := pi_y mi_Law_cable) B (hts0 _ List.mem_cons_self)) B.returns B.notSynchronized (Nat.le_of_ble_eq_true rfl) (Nat.le_of_ble_eq_true rfl) (Nat.le_of_ble_eq_true rfl) (Nat.le_of_ble_eq_true rfl) h hH hl
set_option maxHeartbeats 1000000 in
/-- where nothing is thrown: a run of the pure machine -/
theorem cabRun {N d : Nat} {l : Launch} {As : List Value} {S : pm_S} {out : pm_O} (h : ∃ n, pm_ev pG (pm_rel pG (spL N) d) mi_Law_cable n 0 (lent (pi_L mi_Law_cable) As) [] S out) (hlen : (lg_sl As).length ≤ pi_L mi_Law_cable) (D : va_G) (dA : Nat → ClassId) :
    Met l (pi_y mi_Law_cable) (lcW :: pt_Ts) { frames := d + 1, cells := ps_hi out.2 - ps_hi S, slots := ps_z out.2 - ps_z S, locals := 41 * (d + 1) } (pm_PcX D dA As S) (pm_Q D pt_cl dA out (ps_lo S)) (ps_hi out.2 - ps_hi S) (ps_z out.2 - ps_z S) (fun q => ps_lo S ≤ q) := by
  obtain ⟨n, h⟩ := h
  refine va_MetW (cc := pi_b mi_Law_cable) (maxL := pi_L mi_Law_cable) (ret := pi_r mi_Law_cable) (hh := [(0, 12, 15, 13)]) (by decide +kernel) rfl ?_
  intro p e s m args below meth c s₁ B hml hv
  obtain ⟨rfl, ⟨hH, hK, hK5, hNs⟩, hX⟩ := hv
  have hts0 := atoms_spec (ws := lcW :: pt_Ts) B.pre
  have hown : s.vm.findClass "BuriedPairsLaw" = some m.cls := findClass_of_methodNamed B.named
  have hlocks := B.notSynchronized
  have hr := B.returns
  have C : pm_Cx p s m As.toArray meth c mi_Law_cable (pt_cn (pi_co mi_Law_cable)) pt_Ts tables_1 D pt_cl dA := ⟨B.exec, B.bytes, hml, hown, fun w hw => hts0 w (List.mem_cons_of_mem _ hw), hK, fun z => (by cases z), hNs⟩
  refine pm_ent (mi := mi_Law_cable) (As := As) hlen (fun ls0 hl => ?_)
  have key := pm_walk (p := p) (l := l) (e := e) (R := { frames := d + 1, cells := ps_hi out.2 - ps_hi S, slots := ps_z out.2 - ps_z S, locals := 41 * (d + 1) }) (below := below) (Q := MQ below (pm_Q D pt_cl dA out (ps_lo S)) As.toArray s (ps_hi out.2 - ps_hi S) (ps_z out.2 - ps_z S) (fun q => ps_lo S ≤ q)) pG_ok C lc_ok hK5 (call := pm_rel pG (spL N) d) (d := d) (callL d) callL_mono (Nat.le_refl _) (Nat.le_refl _) (out := out) (hi0 := ps_hi S) (z0 := ps_z S) (lo := ps_lo S) (Nat.le_refl _) (Nat.le_refl _) (by rw [hH.1]; exact hH.2.1) (fun pc idx mj As' st' S1 S2 r lsA H locs h81 hat => absurd hat lc_noS) ?_ n 0 (lent (pi_L mi_Law_cable) As) [] S ls0 s.heap [] h hl hH va_S.rf rfl (Nat.le_refl _) (Nat.le_refl _)
  · rw [Nat.sub_self, Nat.sub_self] at key
    exact key
  · intro pc i ls st lsA H locs hs hdd hH' hS' hlo'
    have hd : pm_il i ≠ 0 → decode (pi_b mi_Law_cable) pc = .ok (i, pm_il i) := fun hn => by
      obtain ⟨len, hd0, hlen⟩ := hdd
      rcases hlen with hz | hz
      · exact absurd hz hn
      · rw [← hz]; exact hd0
    have hq : ∀ t : State, t.heap = H → s.WarmedH t.vm → pm_Q D pt_cl dA out (ps_lo S) As.toArray s (.returned out.1) t := fun t ht hW => ⟨⟨rfl, by rw [ht]; exact hH'.moved hW.alike, va_K.moved hW.alike hK, hK5.moved hW.alike⟩, hS'.F ht⟩
    rcases pm_stp_rt hs with ⟨x, ty, rfl, rfl, hv, hrt, hn⟩ | ⟨x, rfl, rfl, hv, hrt⟩ | ⟨x, C, rfl, rfl, hv, hrt, hx⟩ | ⟨rfl, rfl, hv, hrt⟩
    · rw [hv] at hq
      exact W.zret B.exec B.bytes (hr.trans hrt) hn hq hS'.2.2 (hd (by simp [pm_il])) hlocks
    · exact absurd (show some FieldType.int = some FieldType.long from hrt) (by decide)
    · exact absurd (show some FieldType.int = some (FieldType.object C) from hrt) (fun z => by cases z)
    · exact absurd (show some FieldType.int = none from hrt) (fun z => by cases z)
theorem f_Law_cable {N d : Nat} {S : pm_S} {a o : Nat} {p0 p1 p2 : Int32} {r1 : Int32 × pm_S} {S2 : pm_S} (h1 : F_BP_cable N S a p0 p1 p2 = some r1) (h2 : sJ r1.2 o 0 (Int32.toInt64 r1.1) = some S2) : ∃ n, pm_ev pG (pm_rel pG (spL N) (d + 3)) mi_Law_cable n 0 (lent (pi_L mi_Law_cable) [.ref a, .int p0, .int p1, .int p2, .ref o]) [] S (some (.int 0), S2) := by
  show pmE pG _ mi_Law_cable 0 [some (.ref a), some (.int p0), some (.int p1), some (.int p2), some (.ref o), none] [] S _
  refine pE_jump 6 (pc' := 7) (ls' := [some (.ref a), some (.int p0), some (.int p1), some (.int p2), some (.ref o), none]) (st' := [.int p2, .int p1, .int p0, .ref a, .int 0, .ref o]) (fun _ => rfl) ?_
  refine pE_iv (Bs := [.int p0, .int p1, .int p2]) (st := [.int 0, .ref o]) 1 rfl (Or.inl ⟨rfl, rfl⟩) rfl rfl (Nat.le_of_ble_eq_true rfl) (Nat.le_of_ble_eq_true rfl) (g_BP_cable h1) (f_BP_cable (spL N) d N S a p0 p1 p2 _ h1) ?_
  refine pE_jump 1 (pc' := 11) (ls' := [some (.ref a), some (.int p0), some (.int p1), some (.int p2), some (.ref o), none]) (st' := [.long (Int32.toInt64 r1.1), .int 0, .ref o]) (fun _ => rfl) ?_
  refine pE_sJ rfl h2 ?_
  refine pE_jump 2 (pc' := 20) (ls' := [some (.ref a), some (.int p0), some (.int p1), some (.int p2), some (.ref o), none]) (st' := [.int 0]) (fun _ => rfl) ?_
  exact pE_ret rfl rfl rfl
section LX8
variable {p : Program} {l : Launch} {e : Env} {R : Room} {s : State} {m : MethodId} {args : Array Value} {below : List Frame} {meth : Method} {c : Code} {H : Heap} {locs : List Loc} {cells slots : Nat} {lsA : Array Slot} {S S' : pm_S} {D : va_G} {dA : Nat → ClassId} {N pc : Nat} {As st' : List Value} {r : Option Value}
theorem lc_run {mc ms : Nat} {out : pm_O} (hM : Met l (pi_y mi_Law_cable) (lcW :: pt_Ts) { frames := 10, cells := mc, slots := ms, locals := 410 } (pm_PcX D dA As S) (pm_Q D pt_cl dA out (ps_lo S)) mc ms (fun q => ps_lo S ≤ q)) (C : pm_Cx p s m args meth c mi_Law_law "BuriedPairsLaw" pt_Ts tables_1 D pt_cl dA) (hK5 : pm_K5 dA s) (hX : thX (ps_lo S) s s.heap) (r1 : 11 ≤ R.frames) (r2 : 435 ≤ R.locals) (hd : decode (pi_b mi_Law_law) pc = .ok (.invokestatic 38, 3)) (hn : As.length = 5) (h8 : (st'.map fun v => v.category).sum ≤ 8) (hsz : lsA.size = pi_L mi_Law_law) (hH : pm_H D pt_cl dA s S H) (hS : va_S (fun q => ps_lo S ≤ q) s.heap H locs) (hc : cells + mc ≤ R.cells) (hs : slots + ms ≤ R.slots) :
    va_Run p l e R s m args below meth c H locs cells slots mc ms (F0 m pc lsA (As.reverse ++ st')) st' (pm_Q D pt_cl dA out (ps_lo S) As.toArray) (fun q => ps_lo S ≤ q) := by
  obtain ⟨hx, hb, hml, hown, hts, hK, hin2, hNs⟩ := C
  exact vx_runSW (Ts := pt_Ts) (own := "BuriedPairsLaw") (index := 38) (n := 5) (hh := [(0, 12, 15, 13)]) (bytes := pi_b mi_Law_cable) (maxL := pi_L mi_Law_cable) (ret := pi_r mi_Law_cable) ⟨hx, hb, hml, hown, hts⟩ hM (vx_cwSW 5 hts lc_good rfl rfl rfl ⟨by decide +kernel, by decide +kernel, by decide +kernel⟩ ⟨r1, by show 8 + (6 + 11) + 410 ≤ R.locals; omega⟩) ⟨pm_blindX, fun U hU hW => ⟨rfl, ⟨by rw [hU]; exact hH.moved hW.alike, va_K.moved hW.alike hK, hK5.moved hW.alike, hNs.warm hW⟩, by rw [hU]; exact (hX.kept hS.2.1).warm hW⟩⟩ rfl hn hsz rfl (lv_room h8) hd ⟨hc, hs⟩
theorem ml_38 : (pt_ml 12).all (fun e => decide (e.2.2 ≠ 8) || decide (e.1 = 38)) = true := rfl
theorem lk_38 {idx : Nat} {mj : pm_I} (h : pg_m pG 12 idx = some (mj, 8)) : idx = 38 ∧ mj = mi_Law_cable := by
  have h0 : pt_lk (pt_ml 12) idx = some (mj, 8) := h
  have h1 := List.all_eq_true.mp ml_38 _ (pt_lk_ok h0)
  have h3 : idx = 38 := by
    simp only [Bool.or_eq_true] at h1
    rcases h1 with h1 | h1
    · exact absurd rfl (of_decide_eq_true h1)
    · exact of_decide_eq_true h1
  subst h3
  have h2 : pg_m pG 12 38 = some (mi_Law_cable, 8) := rfl
  rw [h2] at h
  exact ⟨rfl, (congrArg Prod.fst (Option.some.inj h)).symm⟩
/-- the law's call of its cable -/
theorem lc_X8 (hl0 : l.stackTraces = false) (C : pm_Cx p s m args meth c mi_Law_law "BuriedPairsLaw" pt_Ts tables_1 D pt_cl dA) (hK5 : pm_K5 dA s) {lo : Nat} (hX : thX lo s s.heap) (r1 : 11 ≤ R.frames) (r2 : 435 ≤ R.locals) {idx hi0 z0 : Nat} {mj : pm_I} (hlk : pg_m pG (pi_co mi_Law_law) idx = some (mj, 8)) (hlen : (lg_sl As).length ≤ pi_L mj) (hd : decode (pi_b mi_Law_law) pc = .ok (.invokestatic idx, 3)) (hn : As.length = pi_na mj) (h8 : (st'.map fun v => v.category).sum ≤ 8) (hsz : lsA.size = pi_L mi_Law_law) (h : pm_rel pG (spL N) (9 + 1) mj As S (r, S')) (hH : pm_H D pt_cl dA s S H) (hc : ps_hi S' - hi0 ≤ R.cells) (hs : ps_z S' - z0 ≤ R.slots) (hh : hi0 ≤ ps_hi S) (hz : z0 ≤ ps_z S) (hlo : ps_lo S = lo) (hS : va_S (fun q => lo ≤ q) s.heap H locs) :
    va_Run p l e R s m args below meth c H locs (ps_hi S - hi0) (ps_z S - z0) (ps_hi S' - ps_hi S) (ps_z S' - ps_z S) (F0 m pc lsA (As.reverse ++ st')) st' (pm_Q D pt_cl dA (r, S') (ps_lo S) As.toArray) (fun q => ps_lo S ≤ q) := by
  obtain ⟨rfl, rfl⟩ := lk_38 hlk
  subst hlo
  have hm := callL_mono _ _ _ _ h
  dsimp only at hm
  refine lc_run (out := (r, S')) ?_ C hK5 hX r1 r2 hd hn h8 hsz hH hS (by omega) (by omega)
  have h : spL N mi_Law_cable As S (r, S') ∨ ∃ n, pm_ev pG (pm_rel pG (spL N) 9) mi_Law_cable n 0 (lent (pi_L mi_Law_cable) As) [] S (r, S') := h
  rcases h with ⟨-, a, p0, p1, p2, o, r', rfl, hcab, hout⟩ | h
  · have ho1 : r = some (.int r'.1) := congrArg Prod.fst hout
    have ho2 : S' = r'.2 := congrArg Prod.snd hout
    subst ho1
    subst ho2
    unfold cabF at hcab
    by_cases ct : thrC N S a p0 p1 p2
    · rw [if_pos ct] at hcab
      obtain rfl := Option.some.inj hcab
      have e1 : ps_hi (thS S) - ps_hi S = 1 := by show ps_hi S + 1 - ps_hi S = 1; omega
      have e2 : ps_z (thS S) - ps_z S = 6 := by show ps_z S + 6 - ps_z S = 6; omega
      have := cabThr (o := o) hl0 ct D dA
      show Met l (pi_y mi_Law_cable) (lcW :: pt_Ts) { frames := 10, cells := ps_hi (thS S) - ps_hi S, slots := ps_z (thS S) - ps_z S, locals := 410 } _ (pm_Q D pt_cl dA (some (.int 1), thS S) (ps_lo S)) (ps_hi (thS S) - ps_hi S) (ps_z (thS S) - ps_z S) _
      rw [e1, e2]
      exact this
    · rw [if_neg ct] at hcab
      obtain ⟨r1, h1, hcab⟩ := obind hcab
      obtain ⟨S2, h2, hcab⟩ := obind hcab
      obtain rfl := Option.some.inj hcab
      exact cabRun (d := 9) (f_Law_cable (d := 6) h1 h2) hlen D dA
  · exact cabRun (d := 9) h hlen D dA
end LX8
