/-! ===== soundness: instructions that read, write or make cells ===== -/
/-- words of nest mates -/
def pm_Nk (w : Cond) : Bool := match w with
  | .methodLinkNest _ _ _ _ => true
  | .fieldLinkNest _ _ _ _ _ _ => true
  | .arrayOver (.object _) => true
  | .arrayOver (.array _) => true
  | _ => false
def pm_N (Ns : List Cond) (U : State) : Prop := ∀ w ∈ Ns, pm_Nk w = true → va_Nw w U
theorem pm_N.warm {Ns : List Cond} {s U : State} (hW : s.WarmedH U.vm) (h : pm_N Ns s) : pm_N Ns U := by
  intro w hw hk
  have := h w hw hk
  cases w
  case methodLinkNest a i x h => exact va_Nw.warmM hW this
  case fieldLinkNest a i b n d h => exact va_Nw.warmF hW this
  case arrayOver t =>
    cases t
    case object C => exact va_AO.moved hW.alike this
    case array t => exact over_moved hW.alike this
    all_goals cases hk
  all_goals cases hk
theorem pm_N.same {Ns : List Cond} {s U : State} (hv : s.vm = U.vm) (h : pm_N Ns s) : pm_N Ns U := by
  intro w hw hk
  have := h w hw hk
  cases w
  case methodLinkNest a i x h => exact va_Nw.same rfl hv this
  case fieldLinkNest a i b n d h => exact va_Nw.same rfl hv this
  case arrayOver t =>
    have hal : s.vm.Alike U.vm := hv ▸ Vm.Alike.refl _
    cases t
    case object C => exact va_AO.moved hal this
    case array t => exact over_moved hal this
    all_goals cases hk
  all_goals cases hk
/-- the context of a method's body -/
def pm_Cx (p : Program) (s : State) (m : MethodId) (args : Array Value) (meth : Method) (c : Code) (mi : pm_I) (own : String) (Ts Ns : List Cond) (D : va_G) (cl : List vw_C) (dA : Nat → ClassId) : Prop :=
  p.tables.exec = Jvm.exec ∧ c.code = pi_b mi ∧ c.maxLocals = pi_L mi ∧ s.vm.findClass own = some m.cls ∧ (∀ w ∈ Ts, w.before args s = true) ∧ va_K D cl (pm_tys dA) s ∧ (pi_in mi = true → meth.name = "<init>") ∧ pm_N Ns s
theorem pm_fit_ok {ty : FieldType} {v : Value} (h : pm_fit ty v = true) : narrow ty v = v ∧ fits ty v = true := by
  unfold pm_fit at h
  split at h
  · exact ⟨rfl, rfl⟩
  · rename_i x
    simp only [Bool.or_eq_true, decide_eq_true_eq] at h
    rcases h with rfl | rfl
    · exact ⟨by decide, by decide⟩
    · exact ⟨by decide, by decide⟩
  · exact ⟨rfl, rfl⟩
  · exact ⟨rfl, rfl⟩
  · exact ⟨rfl, rfl⟩
  · exact ⟨rfl, rfl⟩
  · cases h
/-- a store that keeps the size -/
theorem pm_H.st {D : va_G} {cl : List vw_C} {dA : Nat → ClassId} {U : State} {S : pm_S} {H H1 : Heap} {a : Nat} {c : pm_C} (h : pm_H D cl dA U S H) (h1 : ps_lo S ≤ a) (h2 : a < ps_hi S) (hc : ∀ (n : Nat) (f : Nat → Int32), c ≠ .inl (6, n, .inl f))
    (he : va_at D cl (a, pm_E dA c) H1) (z : H1.size = H.size) (oq : ∀ q : Nat, q ≠ a → H1[q]? = H[q]?) : pm_H D cl dA U (pm_wr S a c) H1 := by
  refine ⟨z.trans h.1, h.2.1, fun b b1 b2 hg => ?_, fun b n f e => ?_⟩
  · show va_at D cl (b, pm_E dA (pu (ps_h S) a c b)) H1
    have hg : pm_g (pu (ps_h S) a c b) = false := hg
    by_cases hb : b = a
    · subst hb
      rw [pu, if_pos rfl]
      exact he
    · rw [pu, if_neg hb] at hg ⊢
      exact (h.2.2.1 b b1 b2 hg).kept (oq b hb)
  · have e : pu (ps_h S) a c b = .inl (6, n, .inl f) := e
    by_cases hb : b = a
    · rw [pu, if_pos hb] at e
      exact absurd e (hc n f)
    · rw [pu, if_neg hb] at e
      obtain ⟨g1, g2⟩ := h.2.2.2 b n f e
      exact ⟨g1, g2.kept (oq b hb)⟩
theorem pm_H.cell {D : va_G} {cl : List vw_C} {dA : Nat → ClassId} {U : State} {S : pm_S} {H : Heap} {a : Nat} {c : pm_C} (h : pm_H D cl dA U S H) (h1 : ps_lo S ≤ a) (h2 : a < ps_hi S) (hc : ps_h S a = c) (hg : pm_g c = false := by rfl) : va_at D cl (a, pm_E dA c) H := by
  have := h.2.2.1 a h1 h2 (by rw [hc]; exact hg)
  rw [hc] at this
  exact this
theorem pm_H.W1 {D : va_G} {cl : List vw_C} {dA : Nat → ClassId} {U : State} {S : pm_S} {H : Heap} {a : Nat} {c : pm_C} (h : pm_H D cl dA U S H) (h1 : ps_lo S ≤ a) (h2 : a < ps_hi S) (hc : ps_h S a = c) (hg : pm_g c = false := by rfl) : va_P D cl [(a, pm_E dA c)] H := by
  intro k q hk
  have hz : k < 1 := (List.getElem?_eq_some_iff.mp hk).1
  rw [show k = 0 by omega] at hk
  cases hk
  exact h.cell h1 h2 hc hg
section PMB
variable {p : Program} {l : Launch} {e : Env} {R : Room} {s : State} {m : MethodId} {args : Array Value} {below : List Frame} {meth : Method} {c : Code} {H : Heap} {locs : List Loc} {cells slots : Nat} {Q : State → Prop} {mi : pm_I} {pc : Nat} {lsA : Array Slot} {S : pm_S} {ls : pm_L} {st : List Value} {own : String} {Ts Ns : List Cond} {D : va_G} {cl : List vw_C} {dA : Nat → ClassId}
theorem pm_gf_ok (C : pm_Cx p s m args meth c mi own Ts Ns D cl dA) (hH : pm_H D cl dA s S H) {co idx ci k : Nat} {ty : FieldType} {fin : Bool} (hF : pm_OF cl Ts Ns own co idx ci k ty fin) (hd : decode (pi_b mi) pc = .ok (.getfield idx, 3)) {X : pm_X} (h : pm_gf ci k (pc + 3) ls st S = some X) :
    ∃ st', X = .inl (pc + 3, ls, st', S) ∧ (W p l e R s m args below meth c H locs cells slots Q (F0 m (pc + 3) lsA st') → W p l e R s m args below meth c H locs cells slots Q (F0 m pc lsA st)) := by
  obtain ⟨hx, hb, hml, hown, hts, hK, hin2, hNs⟩ := C
  obtain ⟨C, T, N, tf, ⟨hc, hin, hty, hnm, hdl⟩, hk, -, -, hlk⟩ := hF
  unfold pm_gf at h
  split at h
  · rename_i a r
    split at h
    · rename_i cj fs hcell
      split at h
      · rename_i hm
        simp only [Bool.and_eq_true, decide_eq_true_eq] at hm
        obtain ⟨hm, rfl⟩ := hm
        obtain ⟨m1, m2⟩ := pm_my_iff.mp hm
        split at h
        · rename_i v hv
          refine ⟨_, pm_nx_inv h, fun kk => ?_⟩
          rcases hlk with ⟨hlk, -⟩ | ⟨-, host, hlk⟩
          · exact va_get hx hb hts hin hown hK (hH.W1 m1 m2 hcell) 0 rfl hc k hk (hts _ hlk) (fun x hx => by rw [hdl k hk] at hx; exact hx) hv hd kk
          · exact va_getN hx hb hts hin hown hK (hH.W1 m1 m2 hcell) 0 rfl hc k hk (va_Nw.use rfl (hNs _ hlk rfl)) (fun x hx => by rw [hdl k hk] at hx; exact hx) hv hd kk
        · cases h
      · cases h
    · cases h
  · cases h
set_option maxHeartbeats 1000000 in
theorem pm_pf_ok (C : pm_Cx p s m args meth c mi own Ts Ns D cl dA) (hH : pm_H D cl dA s S H) (hS : va_S (fun q => ps_lo S ≤ q) s.heap H locs) {co idx ci k : Nat} {ty : FieldType} {fin : Bool} (hF : pm_OF cl Ts Ns own co idx ci k ty fin) (hco : fin = true → pi_in mi = true ∧ ci = co) (hd : decode (pi_b mi) pc = .ok (.putfield idx, 3)) {X : pm_X} (h : pm_pf ci k ty (pc + 3) ls st S = some X) :
    ∃ st' S', X = .inl (pc + 3, ls, st', S') ∧ ps_lo S' = ps_lo S ∧ ps_hi S' = ps_hi S ∧ ps_z S' = ps_z S ∧ ((∀ H' locs', pm_H D cl dA s S' H' → va_S (fun q => ps_lo S ≤ q) s.heap H' locs' → W p l e R s m args below meth c H' locs' cells slots Q (F0 m (pc + 3) lsA st')) → W p l e R s m args below meth c H locs cells slots Q (F0 m pc lsA st)) := by
  obtain ⟨hx, hb, hml, hown, hts, hK, hin2, hNs⟩ := C
  obtain ⟨C, T, N, tf, ⟨hc, hin, hty, hnm, hdl⟩, hk, rfl, hfin, hlk⟩ := hF
  unfold pm_pf at h
  split at h
  · rename_i v a r
    split at h
    · rename_i cj fs hcell
      split at h
      · rename_i hm
        simp only [Bool.and_eq_true, decide_eq_true_eq] at hm
        obtain ⟨⟨⟨hm, rfl⟩, hft⟩, hl⟩ := hm
        obtain ⟨m1, m2⟩ := pm_my_iff.mp hm
        obtain ⟨hn, hfit⟩ := pm_fit_ok hft
        refine ⟨_, _, pm_nx_inv h, rfl, rfl, rfl, fun kk => ?_⟩
        have hap := va_apart (own := own) hts hin tf hty hnm hK hc
        obtain ⟨r', h1, cell, q1, q2, q3, q4⟩ := hH.cell m1 m2 hcell
        have hr : r' = (C, T, N) := Option.some.inj (h1.symm.trans hc)
        subst hr
        obtain ⟨hSl, hfc, kC, hkC, hkind⟩ := hK.1 cj _ hc
        obtain ⟨cf, kf, fi, f, hi, hsl⟩ := hSl k hk
        have hlay := hts _ (hin _ (u_in_lay hk))
        unfold u_lay at hlay
        have hst := (u_facts hfc hkC (u_lays hts hin hk) hi).1
        have hi' := hi
        rw [hdl k hk] at hi'
        have fin1 : ∀ H' : Heap, H'[a]? = some (cell.setSlot (D.2 cj k) v) → H'.size = H.size → (∀ q, q ≠ a → H'[q]? = H[q]?) → pm_H D cl dA s (pm_wr S a (.inr (cj, fs.set k v))) H' := fun H' e1 e2 e3 =>
          hH.st m1 m2 (fun _ _ z => by cases z) ⟨_, hc, t_OB.to (V := updV (vp_V fs) k v) ⟨_, e1, q2, q3, t_set q4 hap hk v⟩ (fun j _ => vp_updV_set hl v j)⟩ e2 e3
        cases fin with
        | false =>
          rw [if_neg (by rw [hfin]; decide)] at hlay
          have h6 := u_store hfc hkC hkind hlay hi (hty k hk) hn hfit
          rcases hlk with ⟨hlk, -⟩ | ⟨-, host, hlk⟩
          · refine W.putK hx hb (f := f) ⟨hown, hts _ hlk, ⟨_, _, _, hi'⟩, hst⟩ (by rw [q2]; exact h6) q1 q3 (by rw [hsl]; exact k2_hasslot (q4 k hk)) rfl rfl hd fun H' e1 e2 e3 => ?_
            rw [hsl] at e1 ⊢
            exact kk H' _ (fin1 H' e1 e2 e3) (hS.put e2 e3 m1)
          · refine va_WputK hx hb (f := f) hown (va_Nw.use rfl (hNs _ hlk rfl)) hi' hst (by rw [q2]; exact h6) q1 q3 (by rw [hsl]; exact k2_hasslot (q4 k hk)) rfl rfl hd fun H' e1 e2 e3 => ?_
            rw [hsl] at e1 ⊢
            exact kk H' _ (fin1 H' e1 e2 e3) (hS.put e2 e3 m1)
        | true =>
          rw [if_pos hfin] at hlay
          obtain ⟨hini, hcc⟩ := hco rfl
          rcases hlk with ⟨hlk, hCo⟩ | ⟨hne, -⟩
          · have hcf : m.cls = cf := by
              obtain ⟨_, _, c', _, _, _, -, -, hf', -, -, -, hown2, -⟩ := Cond.laysFinal_spec hlay
              have e1 : c' = cf := by have := hi.symm.trans hf'; simp at this; exact this.1.symm
              rw [hdl k hk, hCo] at hown2
              rw [← e1]; exact Option.some.inj (hown.symm.trans hown2)
            have h6 := u_fits hfc hkC hkind (Or.inr hlay) hi (hty k hk) hn hfit
            refine W.putFinK hx hb hown (hts _ hlk) hi' hst hcf (hin2 hini) (by rw [q2]; exact h6) q1 q3 (by rw [hsl]; exact k2_hasslot (q4 k hk)) rfl rfl hd fun H' e1 e2 e3 => ?_
            rw [hsl] at e1 ⊢
            exact kk H' _ (fin1 H' e1 e2 e3) (hS.put e2 e3 m1)
          · exact absurd hcc hne
      · cases h
    · cases h
  · cases h
end PMB
