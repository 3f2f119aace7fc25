/-! ===== soundness: arraycopy, constants, calls ===== -/
def pm_Pc (D : va_G) (cl : List vw_C) (Ns : List Cond) (dA : Nat → ClassId) (As : List Value) (S : pm_S) : Array Value → State → Prop := va_Pc As (fun U => pm_H D cl dA U S U.heap ∧ va_K D cl (pm_tys dA) U ∧ pm_K5 dA U ∧ pm_N Ns U)
def pm_Q (D : va_G) (cl : List vw_C) (dA : Nat → ClassId) (out : pm_O) (lo : Nat) : Array Value → State → Outcome → State → Prop := fun _ st oc t => (oc = .returned out.1 ∧ pm_H D cl dA t out.2 t.heap ∧ va_K D cl (pm_tys dA) t ∧ pm_K5 dA t) ∧ va_F (fun q => lo ≤ q) st t
/-- the contract of a call, out of the pure machine's outcome -/
def pm_Met (cl : List vw_C) (Ts Ns : List Cond) (l : Launch) (mi : pm_I) (d : Nat) (As : List Value) (S : pm_S) (out : pm_O) : Prop :=
  ∀ (D : va_G) (dA : Nat → ClassId), Met l (pi_y mi) (Cond.code (pi_y mi) (pi_b mi) (pi_L mi) (pi_r mi) :: Ts) { frames := d, cells := ps_hi out.2 - ps_hi S, slots := ps_z out.2 - ps_z S, locals := 41 * d } (pm_Pc D cl Ns dA As S) (pm_Q D cl dA out (ps_lo S)) (ps_hi out.2 - ps_hi S) (ps_z out.2 - ps_z S) (fun q => ps_lo S ≤ q)
theorem pm_blind {D : va_G} {cl : List vw_C} {Ns : List Cond} {dA : Nat → ClassId} {As : List Value} {S : pm_S} : FrameBlind (pm_Pc D cl Ns dA As S) :=
  fun a U g mk h => ⟨h.1, pm_H.moved (u := U) (U := U.calling g mk a) (Vm.Alike.refl U.vm) h.2.1, va_K.moved (u := U) (U := U.calling g mk a) (Vm.Alike.refl U.vm) h.2.2.1, pm_K5.moved (u := U) (U := U.calling g mk a) (Vm.Alike.refl U.vm) h.2.2.2.1, pm_N.same (s := U) (U := U.calling g mk a) rfl h.2.2.2.2⟩
theorem pm_good {Ts : List Cond} {w : Cond} (hg : ∀ w ∈ Ts, goodWord w = true) (hw : w ∈ Ts) : GoodIn Ts (w :: Ts) := by
  intro x hx
  rcases List.mem_cons.mp hx with rfl | h
  · exact ⟨hw, good_of_word (hg _ hw)⟩
  · exact ⟨h, good_of_word (hg _ h)⟩
section PME
variable {p : Program} {l : Launch} {e : Env} {R : Room} {s : State} {m : MethodId} {args : Array Value} {below : List Frame} {meth : Method} {c : Code} {H : Heap} {locs : List Loc} {cells slots : Nat} {Q : State → Prop} {mi : pm_I} {pc : Nat} {lsA : Array Slot} {S : pm_S} {ls : pm_L} {st : List Value} {own : String} {Ts Ns : List Cond} {D : va_G} {cl : List vw_C} {dA : Nat → ClassId}
theorem pm_callW {mc ms lo : Nat} {rest st0 : List Value} {a : Array Value} {out : pm_O} (hr : va_Run p l e R s m args below meth c H locs cells slots mc ms (F0 m pc lsA st0) rest (pm_Q D cl dA out lo a) (fun q => lo ≤ q)) (hS : va_S (fun q => lo ≤ q) s.heap H locs)
    (kk : ∀ (H1 : Heap) (locs1 : List Loc), pm_H D cl dA s out.2 H1 → va_S (fun q => lo ≤ q) s.heap H1 locs1 → W p l e R s m args below meth c H1 locs1 (cells + mc) (slots + ms) Q (F0 m (pc + 3) lsA (out.1.toList ++ rest))) : W p l e R s m args below meth c H locs cells slots Q (F0 m pc lsA st0) := by
  intro T hT X
  obtain ⟨v, st₀, t, T', L, h0, X', hL, e1, e2, ⟨⟨hv, hb1, hb2, hb3⟩, hz, hk⟩, st⟩ := hr T hT X
  have hv : v = out.1 := by injection hv
  subst hv
  rw [h0] at hz hk
  have hal : s.vm.Alike t.vm := by rw [← e2]; exact X'.warmed.alike
  obtain ⟨t2, a1, b1⟩ := kk T'.heap (locs ++ L) (by rw [e1]; exact hb1.moved hal.symm)
    ⟨Nat.le_trans hS.1 (by rw [e1]; exact hz), fun q h1 h2 => by rw [e1, hk q (Nat.lt_of_lt_of_le h1 hS.1) h2]; exact hS.2.1 q h1 h2, fun q hq => by
      rcases List.mem_append.mp hq with h | h
      · exact hS.2.2 q h
      · exact hL q h⟩ T' rfl X'
  exact ⟨t2, st t2 a1, b1⟩
set_option maxHeartbeats 1000000 in
theorem pm_cpy_ok (C : pm_Cx p s m args meth c mi own Ts Ns D cl dA) (hsz : lsA.size = pi_L mi) (hH : pm_H D cl dA s S H) (hS : va_S (fun q => ps_lo S ≤ q) s.heap H locs) {idx : Nat} (h4 : Cond.methodLink own idx arraycopyName ∈ Ts ∧ Cond.native arraycopyName ∈ Ts ∧ Cond.static arraycopyName ∈ Ts ∧ Cond.initialized "java/lang/System" ∈ Ts) (hfr : 1 ≤ R.frames) (hlo : 41 ≤ R.locals) (hd : decode (pi_b mi) pc = .ok (.invokestatic idx, 3)) {X : pm_X} (h : pm_cpy (pc + 3) ls st S = some X) :
    pm_G1 p l e R s m args below meth c H locs cells slots Q pc (pc + 3) lsA S ls st D cl dA X := by
  obtain ⟨hx, hb, hml, hown, hts, hK, hin2, hNs⟩ := C
  unfold pm_cpy at h
  split at h
  · rename_i n dp a sp a0 r
    split at h
    · rename_i t0 n0 f t1 n1 g hc0 hc1
      split at h
      · rename_i hm
        simp only [Bool.and_eq_true, decide_eq_true_eq] at hm
        obtain ⟨⟨⟨⟨⟨⟨⟨⟨⟨rfl, rfl⟩, hm0⟩, hm1⟩, h1⟩, h2⟩, h3⟩, g4⟩, g5⟩, hrs⟩ := hm
        obtain ⟨p1, p2⟩ := pm_my_iff.mp hm0
        obtain ⟨m1, m2⟩ := pm_my_iff.mp hm1
        refine ⟨_, _, pm_nx_inv h, rfl, rfl, rfl, fun kk => ?_⟩
        have nn : ∀ z : Int32, ¬ z < 0 → z.toInt = (z.toNatClampNeg : Int) := by
          intro z hz
          have hz0 : (0 : Int) ≤ z.toInt := by
            have := Int32.not_lt.mp hz
            simpa using Int32.le_iff_toInt_le.mp this
          show z.toInt = ((z.toInt.toNat : Nat) : Int)
          omega
        intro T hT X
        have hc0' : H[a0]? = some (vp_cell (dA 0) (n0, .inl f)) := hH.cell p1 p2 hc0
        have hc1' : H[a]? = some (vp_cell (dA 0) (n1, .inl g)) := hH.cell m1 m2 hc1
        obtain ⟨-, k0, hk0, cm0, hkk0⟩ := (hK.2 0 _ rfl).1 n0 (fun j => .int (f j))
        obtain ⟨-, k1, hk1, cm1, hkk1⟩ := (hK.2 0 _ rfl).1 n1 (fun j => .int (g j))
        obtain ⟨vm', X', step⟩ := X.arraycopy hx hown (hts _ h4.1) (hts _ h4.2.1) (hts _ h4.2.2.1) (hts _ h4.2.2.2) (src := a0) (dst := a) (cs := vp_cell (dA 0) (n0, .inl f)) (cd := vp_cell (dA 0) (n1, .inl g)) (srcPos := sp) (destPos := dp) (n := n) (by rw [hT]; exact hc0') (by rw [hT]; exact hc1')
          (fun _ h => by cases h) (fun _ h => by cases h) (fun h => by cases h) (fun h => by cases h) hk0 hk1 hkk0 hkk1 rfl h1 h2 h3
          (by rw [nn sp h1, nn n h3]; show ¬ _ > ((arrV (dA 0) n0 (fun j => .int (f j))).slots.size : Int); rw [arrV_size]; omega)
          (by rw [nn dp h2, nn n h3]; show ¬ _ > ((arrV (dA 0) n1 (fun j => .int (g j))).slots.size : Int); rw [arrV_size]; omega)
          (fun vm₁ _ i hi => by
            have e : (vp_cell (dA 0) (n0, .inl f)).slots.getD (sp.toNatClampNeg + i) .null = .int (f (sp.toNatClampNeg + i)) := by
              show (arrV (dA 0) n0 (fun j => .int (f j))).slots.getD _ _ = _
              rw [Array.getD_eq_getD_getElem?, arrV_read _ _ (by omega)]
              rfl
            refine ⟨?_, ?_⟩
            · rw [e]
              rfl
            · rw [e]
              exact trivial)
          (g := F0 m pc lsA (.int n :: .int dp :: .ref a :: .int sp :: .ref a0 :: r)) rfl (by show lsA.size = _; rw [hml]; exact hsz) (rest := r) rfl (by rw [hb]; exact hd) hfr (by show 2 * 0 + _ + _ ≤ _; have hw7 : nativeFrameWords "java/lang/System" "arraycopy" 5 = 7 := (by decide +kernel); rw [hw7]; omega)
        have e1 : copied (vp_cell (dA 0) (n0, .inl f)) (vp_cell (dA 0) (n1, .inl g)) sp dp n = vp_cell (dA 0) (n1, .inl (va_cpy f g sp.toNatClampNeg dp.toNatClampNeg n.toNatClampNeg)) := va_copied (fun z => .int z) (dA 0) (dA 0) f g g4
        rw [e1] at X' step
        have hl : a < H.size := (Array.getElem?_eq_some_iff.mp hc1').1
        generalize hnc : vp_cell (dA 0) (n1, .inl (va_cpy f g sp.toNatClampNeg dp.toNatClampNeg n.toNatClampNeg)) = nc at X' step
        have hheap : ((T.setVm vm').setCell a nc).heap = H.setIfInBounds a nc := by rw [← hT]; rfl
        have oq : ∀ q : Nat, q ≠ a → (H.setIfInBounds a nc)[q]? = H[q]? := fun q hq => by simp [Array.getElem?_setIfInBounds, Ne.symm hq]
        have hsz1 : (H.setIfInBounds a nc).size = H.size := by simp
        obtain ⟨t, a1, b1⟩ := kk _ _ (hH.st m1 m2 (fun _ _ z => by cases z) (show (H.setIfInBounds a nc)[a]? = some _ by rw [← hnc]; simp [Array.getElem?_setIfInBounds, hl]) hsz1 oq) ⟨by rw [hsz1]; exact hS.1, fun q g1 g2 => by
            rw [oq q (fun e => g2 (by rw [e]; exact m1))]
            exact hS.2.1 q g1 g2, fun q hq => by
            rcases List.mem_append.mp hq with h | h
            · exact hS.2.2 q h
            · obtain ⟨z, -, hz⟩ := List.mem_map.mp h
              rw [← hz]
              exact m1⟩ _ hheap X'
        exact ⟨t, step t a1, b1⟩
      · cases h
    · cases h
  · cases h
/-- the callee's side of a call -/
theorem pm_run {G : pm_G} {cn : Nat → String} (hOK : pm_OKb G cl Ts Ns cn) (C : pm_Cx p s m args meth c mi own Ts Ns D cl dA) (hK5 : pm_K5 dA s) (hsz : lsA.size = pi_L mi) (hH : pm_H D cl dA s S H) {idx d q : Nat} {mj : pm_I} {As st' : List Value} {out : pm_O} (hM : pm_MOk Ts cn mj → pm_Met cl Ts Ns l mj d As S out) (hOM : pm_OM cl Ts Ns cn own idx mj q) (hfr : d + 1 ≤ R.frames) (hlo : 41 * (d + 1) ≤ R.locals)
    (hc1 : cells + (ps_hi out.2 - ps_hi S) ≤ R.cells) (hc2 : slots + (ps_z out.2 - ps_z S) ≤ R.slots) (hst8 : (st'.map fun v => v.category).sum ≤ 8)
    (hq : (q = 0 ∧ decode (pi_b mi) pc = .ok (.invokestatic idx, 3) ∧ As.length = pi_na mj ∧ st = As.reverse ++ st') ∨
      (∃ a Bs fs, q = 1 ∧ decode (pi_b mi) pc = .ok (.invokevirtual idx, 3) ∧ Bs.length = pi_na mj ∧ As = .ref a :: Bs ∧ st = Bs.reverse ++ .ref a :: st' ∧ ps_h S a = .inr (pi_co mj, fs) ∧ ps_lo S ≤ a ∧ a < ps_hi S) ∨
      (∃ a Bs, q = 2 ∧ decode (pi_b mi) pc = .ok (.invokespecial idx, 3) ∧ Bs.length = pi_na mj ∧ As = .ref a :: Bs ∧ st = Bs.reverse ++ .ref a :: st')) :
    va_Run p l e R s m args below meth c H locs cells slots (ps_hi out.2 - ps_hi S) (ps_z out.2 - ps_z S) (F0 m pc lsA st) st' (pm_Q D cl dA out (ps_lo S) As.toArray) (fun q => ps_lo S ≤ q) := by
  obtain ⟨hx, hb, hml, hown, hts, hK, hin2, hNs⟩ := C
  have hgd := hOK.1
  have hroom : ∀ L, L ≤ 22 → d + 1 ≤ R.frames ∧ 8 + (L + 11) + 41 * d ≤ R.locals := fun L hL => ⟨hfr, by omega⟩
  have hpre : PreS s H (pm_Pc D cl Ns dA As S) As := ⟨pm_blind, fun U hU hW => ⟨rfl, by rw [hU]; exact hH.moved hW.alike, va_K.moved hW.alike hK, hK5.moved hW.alike, hNs.warm hW⟩⟩
  rcases hq with ⟨rfl, hd, hn, rfl⟩ | ⟨a, Bs, fs, rfl, hd, hn, rfl, rfl, hcell, m1, m2⟩ | ⟨a, Bs, rfl, hd, hn, rfl, rfl⟩
  · rcases hOM with ⟨-, hMO, hL, hst⟩ | h | h | h | h | h | h | h | h
    · have hMet := hM hMO D dA
      obtain ⟨o1, o2, o3, o4, o5, o6, o7, o8⟩ := hMO
      rcases hL with hL | ⟨host, hL⟩
      · exact va_runS (Ts := Ts) ⟨hx, hb, hml, hown, hts⟩ hMet ⟨callB_of (pi_na mj) hts (pm_good hgd o1) rfl rfl rfl (hts _ o2) (hts _ hL) o3 (hroom _ o4), hts _ hst⟩ hpre rfl hn hsz rfl (lv_room hst8) hd ⟨hc1, hc2⟩
      · exact va_runSN (Ts := Ts) ⟨hx, hb, hml, hown, hts⟩ hMet ⟨va_cnB (pi_na mj) hts (pm_good hgd o1) rfl rfl rfl (hNs _ hL rfl) (hts _ o2) o3 (hroom _ o4), hts _ hst, trivial⟩ hpre rfl hn hsz rfl (lv_room hst8) hd ⟨hc1, hc2⟩
    · exact absurd h.1 (by decide)
    · exact absurd h.1 (by decide)
    · exact absurd h.1 (by decide)
    · exact absurd h.1 (by decide)
    · exact absurd h.1 (by decide)
    · exact absurd h.1 (by decide)
    · exact absurd h.1 (by decide)
    · exact absurd h.1 (by decide)
  · rcases hOM with h | ⟨-, hMO, hL, hin, hse, T, N, hcl⟩ | h | h | h | h | h | h | h
    · exact absurd h.1 (by decide)
    · have hMet := hM hMO D dA
      obtain ⟨o1, o2, o3, o4, o5, o6, o7, o8⟩ := hMO
      have hpv : PreV s H (pi_y mj).cls a (pm_Pc D cl Ns dA (.ref a :: Bs) S) Bs := ⟨hpre.1, va_recv hK (hH.W1 m1 m2 hcell) hcl (q0 := 0) rfl, hpre.2⟩
      rcases hL with hL | ⟨host, hL⟩
      · exact va_runV (Ts := Ts) ⟨hx, hb, hml, hown, hts⟩ hMet ⟨callB_of (pi_na mj) hts (pm_good hgd o1) rfl rfl rfl (hts _ o2) (hts _ hL) o3 (hroom _ o4), hts _ hin, hts _ hse⟩ hpv rfl hn hsz rfl (lv_room hst8) hd ⟨hc1, hc2⟩
      · exact va_runVN (Ts := Ts) ⟨hx, hb, hml, hown, hts⟩ hMet ⟨va_cnB (pi_na mj) hts (pm_good hgd o1) rfl rfl rfl (hNs _ hL rfl) (hts _ o2) o3 (hroom _ o4), hts _ hin, hts _ hse⟩ hpv rfl hn hsz rfl (lv_room hst8) hd ⟨hc1, hc2⟩
    · exact absurd h.1 (by decide)
    · exact absurd h.1 (by decide)
    · exact absurd h.1 (by decide)
    · exact absurd h.1 (by decide)
    · exact absurd h.1 (by decide)
    · exact absurd h.1 (by decide)
    · exact absurd h.1 (by decide)
  · rcases hOM with h | h | ⟨-, hMO, hL, hin, hnm, hrn⟩ | h | h | h | h | h | h
    · exact absurd h.1 (by decide)
    · exact absurd h.1 (by decide)
    · have hMet := hM hMO D dA
      obtain ⟨o1, o2, o3, o4, o5, o6, o7, o8⟩ := hMO
      rw [hrn] at hMet o1
      rcases hL with hL | ⟨host, hL⟩
      · exact va_runI (Ts := Ts) ⟨hx, hb, hml, hown, hts⟩ hMet ⟨callB_of (pi_na mj) hts (pm_good hgd o1) rfl rfl rfl (hts _ o2) (hts _ hL) o3 (hroom _ o4), hnm, hts _ hin⟩ hpre rfl hn hsz rfl (lv_room hst8) hd ⟨hc1, hc2⟩
      · exact va_runIN (Ts := Ts) ⟨hx, hb, hml, hown, hts⟩ hMet ⟨va_cnB (pi_na mj) hts (pm_good hgd o1) rfl rfl rfl (hNs _ hL rfl) (hts _ o2) o3 (hroom _ o4), hnm, hts _ hin⟩ hpre rfl hn hsz rfl (lv_room hst8) hd ⟨hc1, hc2⟩
    · exact absurd h.1 (by decide)
    · exact absurd h.1 (by decide)
    · exact absurd h.1 (by decide)
    · exact absurd h.1 (by decide)
    · exact absurd h.1 (by decide)
    · exact absurd h.1 (by decide)
end PME
