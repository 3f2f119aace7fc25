/-! ===== soundness: references into arrays, new cells, arraycopy ===== -/
/-- an array of int arrays: its class's component is the class of int arrays -/
def pm_K5 (dA : Nat → ClassId) (U : State) : Prop := ∃ k5 : Class, U.vm.classes[dA 5]? = some k5 ∧ k5.kind = .array (dA 0) (.array .int)
theorem pm_K5.moved {dA : Nat → ClassId} {u U : State} (hvm : u.vm.Alike U.vm) (h : pm_K5 dA u) : pm_K5 dA U := by
  obtain ⟨k, h1, h2⟩ := h
  obtain ⟨k', hk', he⟩ := hvm.2.2 _ _ h1
  exact ⟨k', hk', by rw [he]; exact h2⟩
theorem pm_assign_self (vm : Vm) (c : ClassId) : vm.assignable c c = true := by
  show vm.assignableAux (255 + 1) c c = true
  rw [Vm.assignableAux]
  simp
section PMD
variable {p : Program} {l : Launch} {e : Env} {R : Room} {s : State} {m : MethodId} {args : Array Value} {below : List Frame} {meth : Method} {c : Code} {H : Heap} {locs : List Loc} {cells slots : Nat} {Q : State → Prop} {mi : pm_I} {pc : Nat} {lsA : Array Slot} {S : pm_S} {ls : pm_L} {st : List Value} {own : String} {Ts Ns : List Cond} {D : va_G} {cl : List vw_C} {dA : Nat → ClassId}
theorem pm_upd_q {cA : ClassId} {n i v : Nat} {f : Nat → Option Nat} : (arrV cA n (fun j => va_rf (f j))).setSlot i (.ref v) = arrV cA n (fun j => va_rf (va_up f i (some v) j)) := by
  rw [arrV_store]
  congr 1
  funext q
  by_cases hq : q = i
  · subst hq
    simp [updV, va_up, va_rf]
  · simp [updV, va_up, hq]
set_option maxHeartbeats 1000000 in
theorem pm_aastore_ok (C : pm_Cx p s m args meth c mi own Ts Ns D cl dA) (hK5 : pm_K5 dA s) (hpl : ∃ (T : u_T) (N : Nat), cl[4]? = some ("BuriedPairs$Plan", T, N)) (hH : pm_H D cl dA s S H) (hS : va_S (fun q => ps_lo S ≤ q) s.heap H locs) (hd : decode (pi_b mi) pc = .ok (.aastore, 1)) {X : pm_X} (h : pm_sq 4 (pc + 1) ls st S = some X) :
    pm_G1 p l e R s m args below meth c H locs cells slots Q pc (pc + 1) lsA S ls st D cl dA X := by
  obtain ⟨hx, hb, hml, hown, hts, hK, hin2, hNs⟩ := C
  unfold pm_sq at h
  split at h
  · rename_i v i a r
    split at h
    · rename_i t n f hc
      split at h
      · rename_i hm
        simp only [Bool.and_eq_true] at hm
        obtain ⟨⟨⟨hm, hmv⟩, hin⟩, hval⟩ := hm
        have hin := pm_in_iff.mp hin
        obtain ⟨m1, m2⟩ := pm_my_iff.mp hm
        obtain ⟨v1, v2⟩ := pm_my_iff.mp hmv
        have hlt : i.toNatClampNeg < n := Nat.not_le.mp fun q => hin (Or.inr q)
        have h0 : ¬ i < 0 := fun q => hin (Or.inl q)
        refine ⟨_, _, pm_nx_inv h, rfl, rfl, rfl, fun kk => ?_⟩
        have ht9 : t = 4 ∨ t = 5 := by
          unfold pm_okv at hval
          split at hval
          · simp only [Bool.and_eq_true, decide_eq_true_eq] at hval
            exact Or.inl hval.1
          · simp only [Bool.and_eq_true, decide_eq_true_eq] at hval
            exact Or.inr hval.1
          · cases hval
        have hcell : H[a]? = some (arrV (dA t) n (fun j => va_rf (f j))) := hH.cell m1 m2 hc (by simp [pm_g]; omega)
        have fin1 : ∀ H1 : Heap, H1[a]? = some ((arrV (dA t) n (fun j => va_rf (f j))).setSlot i.toNatClampNeg (.ref v)) → H1.size = H.size → (∀ q, q ≠ a → H1[q]? = H[q]?) → pm_H D cl dA s (pm_wr S a (.inl (t, n, .inr (.inr (.inr (.inr (va_up f i.toNatClampNeg (some v)))))))) H1 := fun H1 e1 e2 e3 =>
          hH.st m1 m2 (fun _ _ z => by cases z) (pm_at_q (e1.trans (congrArg some pm_upd_q))) e2 e3
        unfold pm_okv at hval
        split at hval
        · rename_i cj fs hv
          simp only [Bool.and_eq_true, decide_eq_true_eq] at hval
          obtain ⟨rfl, rfl⟩ := hval
          obtain ⟨T, N, hc4⟩ := hpl
          obtain ⟨r', hr', cellV, g1, g2, g3, -⟩ := hH.cell v1 v2 hv
          have hcls := (hK.1 4 _ hc4).2
          obtain ⟨kA, comp, k1, k2, k3, -⟩ := (hK.2 4 _ rfl).2
          have hcomp : comp = D.1 4 := Option.some.inj (k3.symm.trans hcls.1)
          subst hcomp
          have hcls' := hcls
          obtain ⟨kC, hkC, -⟩ := hcls'.2
          refine W.aast hx hb hcell (fun q h => by cases h) (fun h => by cases h) k1 k2 rfl hkC ⟨h0, by rw [arrV_size]; exact hlt⟩ g1 (fun q h => by rw [g3] at h; cases h) (by rw [g2]; exact hkC) (by rw [g2]; exact va_assign hcls) rfl rfl hd fun H1 e1 e2 e3 => ?_
          exact kk H1 _ (fin1 H1 e1 e2 e3) (hS.put e2 e3 m1)
        · rename_i t2 n2 f2 hv
          simp only [Bool.and_eq_true, decide_eq_true_eq] at hval
          obtain ⟨rfl, rfl⟩ := hval
          have hcv : H[v]? = some (arrV (dA 0) n2 (fun j => .int (f2 j))) := hH.cell v1 v2 hv
          obtain ⟨k5, k51, k52⟩ := hK5
          obtain ⟨-, k0, k01, -⟩ := (hK.2 0 _ rfl).1 n2 (fun j => .int (f2 j))
          refine W.aast hx hb hcell (fun q h => by cases h) (fun h => by cases h) k51 k52 rfl k01 ⟨h0, by rw [arrV_size]; exact hlt⟩ hcv (fun q h => by cases h) k01 (pm_assign_self _ _) rfl rfl hd fun H1 e1 e2 e3 => ?_
          exact kk H1 _ (fin1 H1 e1 e2 e3) (hS.put e2 e3 m1)
        · cases hval
      · cases h
    · cases h
  · cases h
/-- what an allocation leaves -/
def pm_G2 (p : Program) (l : Launch) (e : Env) (R : Room) (s : State) (m : MethodId) (args : Array Value) (below : List Frame) (meth : Method) (c : Code) (H : Heap) (locs : List Loc) (cells slots : Nat) (Q : State → Prop) (pc pc' : Nat) (lsA : Array Slot) (S : pm_S) (ls : pm_L) (st : List Value) (D : va_G) (cl : List vw_C) (dA : Nat → ClassId) (X : pm_X) : Prop :=
  ∃ st' S' k, X = .inl (pc', ls, st', S') ∧ ps_lo S' = ps_lo S ∧ ps_hi S' = ps_hi S + 1 ∧ ps_z S' = ps_z S + k ∧ (cells + 1 ≤ R.cells → slots + k ≤ R.slots → (∀ H', pm_H D cl dA s S' H' → va_S (fun q => ps_lo S ≤ q) s.heap H' locs → W p l e R s m args below meth c H' locs (cells + 1) (slots + k) Q (F0 m pc' lsA st')) → W p l e R s m args below meth c H locs cells slots Q (F0 m pc lsA st))
theorem pm_S_al {lo : Nat} {H0 H H1 : Heap} {hi : Nat} (hS : va_S (fun q => lo ≤ q) H0 H locs) (hz : H.size = hi) (z : H1.size = hi + 1) (o : ∀ q, q < hi → H1[q]? = H[q]?) : va_S (fun q => lo ≤ q) H0 H1 locs :=
  ⟨Nat.le_trans hS.1 (by omega), fun q h1 h2 => (o q (by have := hS.1; omega)).trans (hS.2.1 q h1 h2), hS.2.2⟩
/-- the array classes by kind -/
def pm_KA (dA : Nat → ClassId) (U : State) : Prop := va_RA U (dA 0) .int ∧ va_RA U (dA 1) .long ∧ va_RA U (dA 2) .byte ∧ va_RA U (dA 3) .boolean
theorem pm_zero6 {t n n' : Nat} {f : Nat → Int32} (h : t ≠ 6) : pm_zero t n ≠ .inl (6, n', .inl f) := by
  intro z
  unfold pm_zero at z
  injection z with z
  injection z with z
  exact h z
theorem pm_newarray_ok (C : pm_Cx p s m args meth c mi own Ts Ns D cl dA) (hOA : pm_OA Ts) (hH : pm_H D cl dA s S H) (hS : va_S (fun q => ps_lo S ≤ q) s.heap H locs) {t : ArrayType} {k : Nat} (hk : pm_kind t = some k) (hd : decode (pi_b mi) pc = .ok (.newarray t, 2)) {X : pm_X} (h : pm_newa k (pc + 2) ls st S = some X) :
    pm_G2 p l e R s m args below meth c H locs cells slots Q pc (pc + 2) lsA S ls st D cl dA X := by
  obtain ⟨hx, hb, hml, hown, hts, hK, hin2, hNs⟩ := C
  obtain ⟨hz, hlh, hP, hX⟩ := id hH
  unfold pm_newa at h
  split at h
  · rename_i n r
    split at h
    · rename_i hn
      simp only [Bool.and_eq_true, decide_eq_true_eq] at hn
      refine ⟨_, _, n.toNatClampNeg, pm_nx_inv h, rfl, rfl, rfl, fun hc1 hc2 kk => ?_⟩
      have key : ∀ (ty : FieldType), newarray.typeOf t = ty → Cond.arrayClass ty ∈ Ts → componentBytes ty ≤ 8 → va_RA s (dA k) ty → (∀ U cA, va_RA U cA ty ↔ U.vm.findClass ("[" ++ ty.toString) = some cA) → (∀ (cA : ClassId) (N : Nat), vp_cell cA (N, (match pm_zero k N with | .inl q => q.2.2 | .inr _ => .inl (fun _ => 0))) = arrV cA N (fun _ => defaultValue ty)) → k ≠ 6 → W p l e R s m args below meth c H locs cells slots Q (F0 m pc lsA (.int n :: r)) := by
        intro ty hty ha hcb hRA hiff hcell h6
        subst hty
        refine va_newaK hx hb (hts _ ha) rfl hd rfl hn.1 rfl (Nat.le_trans (Nat.mul_le_mul hn.2 hcb) (by decide)) hc1 hc2 hz fun H1 cA e1 z1 o1 hAr hNm => ?_
        have hcA : cA = dA k := by
          have := (hiff s (dA k)).mp hRA
          exact Option.some.inj (hNm.symm.trans this)
        subst hcA
        refine kk H1 (hH.al (fun n' f => pm_zero6 h6) z1 (fun _ => ?_) (fun q hq => o1 q hq)) (pm_S_al hS hz z1 o1)
        show H1[ps_hi S]? = some (vp_cell (dA k) _)
        rw [e1, ← hcell (dA k) n.toNatClampNeg]
        rfl
      obtain ⟨a0, a1, a2, a3⟩ := hOA
      cases t with
      | int => cases hk; exact key .int rfl a0 (by decide) (hK.2 0 _ rfl).2 (fun _ _ => Iff.rfl) (fun _ _ => rfl) (by decide)
      | long => cases hk; exact key .long rfl a1 (by decide) (hK.2 1 _ rfl).2 (fun _ _ => Iff.rfl) (fun _ _ => rfl) (by decide)
      | byte => cases hk; exact key .byte rfl a2 (by decide) (hK.2 2 _ rfl).2 (fun _ _ => Iff.rfl) (fun _ _ => rfl) (by decide)
      | boolean => cases hk; exact key .boolean rfl a3 (by decide) (hK.2 3 _ rfl).2 (fun _ _ => Iff.rfl) (fun _ _ => rfl) (by decide)
      | _ => cases hk
    · cases h
  · cases h
theorem pm_anewarray_ok (C : pm_Cx p s m args meth c mi own Ts Ns D cl dA) (hH : pm_H D cl dA s S H) (hS : va_S (fun q => ps_lo S ≤ q) s.heap H locs) {idx t : Nat} (hQ : pm_OQb Ts Ns own idx t) (hd : decode (pi_b mi) pc = .ok (.anewarray idx, 3)) {X : pm_X} (h : pm_newa t (pc + 3) ls st S = some X) :
    pm_G2 p l e R s m args below meth c H locs cells slots Q pc (pc + 3) lsA S ls st D cl dA X := by
  obtain ⟨hx, hb, hml, hown, hts, hK, hin2, hNs⟩ := C
  obtain ⟨hz, hlh, hP, hX⟩ := id hH
  unfold pm_newa at h
  split at h
  · rename_i n r
    split at h
    · rename_i hn
      simp only [Bool.and_eq_true, decide_eq_true_eq] at hn
      refine ⟨_, _, n.toNatClampNeg, pm_nx_inv h, rfl, rfl, rfl, fun hc1 hc2 kk => ?_⟩
      have hby : n.toNatClampNeg * 4 ≤ 536870912 := Nat.le_trans (Nat.mul_le_mul hn.2 (Nat.le_refl 4)) (by decide)
      have fin1 : ∀ cA, cA = dA t → (t = 4 ∨ t = 5) → W p l e R s m args below meth c (H.push { cls := cA, slots := Array.replicate n.toNatClampNeg .null, vm := .none }) locs (cells + 1) (slots + n.toNatClampNeg) Q (F0 m (pc + 3) lsA (.ref H.size :: r)) := by
        intro cA hcA ht
        subst hcA
        generalize hH1 : H.push ({ cls := dA t, slots := Array.replicate n.toNatClampNeg .null, vm := .none } : Cell) = H1
        have z1 : H1.size = ps_hi S + 1 := by rw [← hH1, Array.size_push, hz]
        have e1 : H1[ps_hi S]? = some (arrV (dA t) n.toNatClampNeg (fun _ => .null)) := by rw [← hz, ← hH1, Array.getElem?_push_size, ← arrV_new]
        have o1 : ∀ q, q < ps_hi S → H1[q]? = H[q]? := fun q hq => by rw [← hH1, Array.getElem?_push, if_neg (by omega)]
        rw [hz]
        refine kk H1 (hH.al (fun n' f => pm_zero6 (by omega)) z1 (fun _ => ?_) o1) (pm_S_al hS hz z1 o1)
        rcases ht with rfl | rfl
        · exact e1
        · exact e1
      rcases hQ with ⟨rfl, h1, h2⟩ | ⟨rfl, h1, h2⟩
      · refine W.anew hx hb hown (hts _ h1) (hNs _ h2 rfl) rfl hd rfl hn.1 hby hc1 hc2 fun cA kA comp f1 f2 f3 f4 => ?_
        obtain ⟨kA', comp', k1, k2, k3, k4⟩ := (hK.2 4 _ rfl).2
        exact fin1 cA (Option.some.inj (f1.symm.trans k4)) (Or.inl rfl)
      · refine W.anewA hx hb hown (hts _ h1) (hNs _ h2 rfl) rfl hd rfl hn.1 hby hc1 hc2 fun cA kA comp f1 f2 f3 f4 => ?_
        have k4 : s.vm.findClass ("[" ++ (FieldType.array .int).toString) = some (dA 5) := (hK.2 5 _ rfl).2
        exact fin1 cA (Option.some.inj (f1.symm.trans k4)) (Or.inr rfl)
    · cases h
  · cases h
theorem pm_new_ok (C : pm_Cx p s m args meth c mi own Ts Ns D cl dA) (hH : pm_H D cl dA s S H) (hS : va_S (fun q => ps_lo S ≤ q) s.heap H locs) {idx ci : Nat} {fs : List Value} (hN : pm_ON cl Ts own idx ci fs) (hd : decode (pi_b mi) pc = .ok (.new idx, 3)) {X : pm_X} (h : pm_nx (pc + 3) ls (.ref (ps_hi S) :: st) (pm_al S fs.length (.inr (ci, fs))) = some X) :
    pm_G2 p l e R s m args below meth c H locs cells slots Q pc (pc + 3) lsA S ls st D cl dA X := by
  obtain ⟨hx, hb, hml, hown, hts, hK, hin2, hNs⟩ := C
  obtain ⟨hz, hlh, hP, hX⟩ := id hH
  obtain ⟨C, T, N, tf, ⟨hc, hin, hty, hnm, hdl⟩, hlen, hdef, hcl, hinst, hini⟩ := hN
  refine ⟨_, _, fs.length, pm_nx_inv h, rfl, rfl, rfl, fun hc1 hc2 kk => ?_⟩
  have hKn := hK.1 ci _ hc
  subst hlen
  refine W.newcK hx hb hown (hts _ hcl) (hts _ hinst) (hts _ hini) rfl hd hc1 hc2 hKn.2.1 hz fun H1 kC hkC e1 z1 o1 => ?_
  exact kk H1 (hH.al (fun _ _ z => by cases z) z1 (fun _ => ⟨_, hc, (u_born tf hts hin hKn hkC e1 hty).to hdef⟩) o1) (pm_S_al hS hz z1 o1)
end PMD
