/-! ===== a JOINT, a HOUSE of a TEXT ===== -/
section SEQ
variable {b : Nat → Nat} {i j v f L : Nat} {ok ok2 : Nat → Prop} {w : Nat × Nat}
theorem seqF (e : nmb b i = .inr (v, j)) (o : ok v) (h : nmR b j ok2 = .inl f) : nmR b i ok = .inl f ∨ nmR b i ok = .inr (v, j) := by
  by_cases d : dg (b j)
  · have e2 := nmb_l (b := b) (i := j) (fun y => by rw [y] at d; unfold dg at d; omega)
    rw [nmR_l e2] at h
    have := Sum.inl.inj h
    left
    rw [nmR_3 e o d, this]
  · exact Or.inr (nmR_g e o d)
theorem seqG (e : nmb b i = .inr (v, j)) (o : ok v) (h : nmb b j = .inr w) : nmR b i ok = .inr (v, j) := by
  refine nmR_g e o (fun d => ?_)
  have e2 := nmb_l (b := b) (i := j) (fun y => by rw [y] at d; unfold dg at d; omega)
  rw [e2] at h
  cases h
end SEQ
theorem aO_ag {A : AP} {k x y : Nat} : AG A (aO A k x y) [5, 6, 7] [2] := by
  refine ⟨fun f f0 hf => ?_, fun i hi => ?_⟩
  · unfold aO
    rw [upF_n (fun e => hf (by rw [e]; decide)), upF_n (fun e => hf (by rw [e]; decide)), upF_n (fun e => hf (by rw [e]; decide)), upF_n f0]
  · unfold aO
    rw [upF_n (by decide), upF_n (by decide), upF_n (by decide), upF_s]
    exact updN_n (fun e => hi (by rw [e]; decide))
section AOS
variable {A : AP} {k x y : Nat}
theorem aO_nq : q_nq (aO A k x y) = q_nq A + 1 := by
  show aO A k x y 0 2 = _
  unfold aO
  rw [upF_n (by decide), upF_n (by decide), upF_n (by decide), upF_s, updN_s]
theorem aO_ok : q_ok (aO A k x y) = updN (q_ok A) (q_nq A) k := by
  show aO A k x y 5 = _
  unfold aO
  rw [upF_n (by decide), upF_n (by decide), upF_s]
  rfl
theorem aO_os : q_os (aO A k x y) = updN (q_os A) (q_nq A) x := by
  show aO A k x y 6 = _
  unfold aO
  rw [upF_n (by decide), upF_s]
  rfl
theorem aO_ow : q_ow (aO A k x y) = updN (q_ow A) (q_nq A) y := by
  show aO A k x y 7 = _
  unfold aO
  rw [upF_s]
  rfl
theorem aO_ly : q_ly (aO A k x y) (q_nq A) = q_ly A (q_nq A) := by
  refine ly_c _ (fun m hm => ?_)
  rw [aO_ok, aO_os, aO_ow, updN_n (by omega), updN_n (by omega), updN_n (by omega)]
  exact ⟨rfl, rfl, rfl⟩
theorem aO_DA (h : DA A) (hq : q_nq A < 50) (hk : k ≤ 1) (hx : q_st A x) (h0 : k = 0 → q_st A y ∧ q_fr A (y / 8) = q_tb A (x / 8)) (h1 : k = 1 → y < 10) : DA (aO A k x y) := by
  have g := aO_ag (A := A) (k := k) (x := x) (y := y)
  obtain ⟨⟨a1, a2, a3, a4, a5, a6, a7, a8⟩, n1, n2, n3, n4, n5, n6⟩ := h
  refine ⟨⟨?_, ag_WFx g (by decide) (by decide) (by decide) (by decide) (by decide) (by decide) a2, ag_WFd g (by decide) (by decide) a3, ?_, ag_WFt g (by decide) (by decide) (by decide) (by decide) (by decide) (by decide) (by decide) (by decide) (by decide) (by decide) a5, ag_WFe g (by decide) (by decide) (by decide) (by decide) (by decide) (by decide) (by decide) (by decide) a6, ag_WFr g (by decide) (by decide) (by decide) (by decide) (by decide) a7, ag_WFw g (by decide) a8⟩, by rw [ag_ns g (by decide)]; exact n1, by rw [ag_nt g (by decide)]; exact n2, by rw [ag_ne g (by decide)]; exact n3, by rw [ag_nr g (by decide)]; exact n4, fun h => by rw [ag_wt g (by decide)]; exact n5 h, ?_⟩
  · unfold WFc at a1 ⊢
    rw [ag_nb g (by decide), ag_nc g (by decide), aO_nq, ag_ns g (by decide), ag_nt g (by decide), ag_ne g (by decide), ag_nr g (by decide)]
    omega
  · intro i hi
    rw [aO_nq, ag_ns g (by decide), n1] at hi
    rw [aO_ok, aO_os, aO_ow, ag_st g (by decide) (by decide), ag_fr g (by decide), ag_tb g (by decide)]
    by_cases c : i = q_nq A
    · subst c
      rw [updN_s, updN_s, updN_s]
      exact ⟨hk, hx, h0, h1⟩
    · rw [updN_n c, updN_n c, updN_n c]
      exact a4 i (by omega)
  · have e : q_pc (aO A k x y) = q_pc A := by
      funext x
      unfold q_pc
      rw [ag_tb g (by decide), ag_nc g (by decide)]
    rw [ag_nc g (by decide), e]
    exact n6
end AOS
/-- the class's text of a JOINT and of a HOUSE, in steps -/
def J4 (N a P : Nat) (v5 v9 v14 : Int32) (S : pm_S) : Option pm_S := (F_Plan_meet N S P v5 v14).bind fun (v16, S15) => if v16 = 0 then ((oI S15 a 7 1).bind fun v17 => (F_Reader_fail N S15 a (v17 - 1)).bind fun S18 => F_Reader_readJoint_64 N a P v5 v9 v14 S18) else F_Reader_readJoint_64 N a P v5 v9 v14 S15
def J3 (N a P : Nat) (v5 v9 : Int32) (S : pm_S) : Option pm_S := (oR S P 4 1).bind fun oq10 => match oq10 with
  | none => none
  | some q10 => (F_Ledger_size N S q10).bind fun (v12, S11) => (F_Reader_number N S11 a 0 (v12 - 1)).bind fun (v14, S13) => J4 N a P v5 v9 v14 S13
def J2 (N a P : Nat) (v5 : Int32) (S : pm_S) : Option pm_S := (F_Plan_pairsOf N S P v5).bind fun (v7, S6) => (F_Reader_number N S6 a 0 (v7 - 1)).bind fun (v9, S8) => J3 N a P v5 v9 S8
theorem rj_eq {N a P : Nat} {S : pm_S} : F_Reader_readJoint N S a P = if rcv S a 7 = true then ((oR S P 4 1).bind fun oq1 => match oq1 with
  | none => none
  | some q1 => (F_Ledger_size N S q1).bind fun (v3, S2) => (F_Reader_number N S2 a 0 (v3 - 1)).bind fun (v5, S4) => J2 N a P v5 S4) else none := rfl
def H3 (N a P : Nat) (v5 v9 : Int32) (S : pm_S) : Option pm_S := (F_Reader_number N S a 0 9).bind fun (v11, S10) => (oI S10 a 7 2).bind fun v12 => if v12 = (-1) then ((oR S10 P 4 4).bind fun oq13 => match oq13 with
  | none => none
  | some q13 => (F_BP_siteOf N S10 v5 v9).bind fun (v17, S16) => (F_Layout_hang N S16 q13 v17 v11).bind fun S18 => F_Reader_readHouse_59 N S18) else F_Reader_readHouse_59 N S10
def H2 (N a P : Nat) (v5 : Int32) (S : pm_S) : Option pm_S := (F_Plan_pairsOf N S P v5).bind fun (v7, S6) => (F_Reader_number N S6 a 0 (v7 - 1)).bind fun (v9, S8) => H3 N a P v5 v9 S8
theorem rh_eq {N a P : Nat} {S : pm_S} : F_Reader_readHouse N S a P = if rcv S a 7 = true then ((oR S P 4 1).bind fun oq1 => match oq1 with
  | none => none
  | some q1 => (F_Ledger_size N S q1).bind fun (v3, S2) => (F_Reader_number N S2 a 0 (v3 - 1)).bind fun (v5, S4) => H2 N a P v5 S4) else none := rfl
section JNT
variable {h0 : Nat → pm_C} {B : Nat} {D : Nat → pd} {hi z : Nat} {s : mst} {N P L i n : Nat} {A : AP} {b : Nat → Nat} {p0 p1 p2 p3 x y w : Int32}
theorem c_step (hN : 1000 ≤ N) (hx : CTX s b L) (hi2 : i ≤ L) (ha : s.1 3 1 = nI i) (hw : s.1 3 2 = -1) (hn : n < 1000) : (∃ f x s1, G_Reader_number N s 0 (nI n - 1) = some (x, s1) ∧ s1.1 3 2 = nI f ∧ s1.1 3 0 = s.1 3 0 ∧ (∀ k, k ≠ 3 → s1.1 k = s.1 k) ∧ f ≤ L ∧ ∀ ok : Nat → Prop, (∀ v, ok v → v < n) → nmR b i ok = .inl f) ∨ (∃ v j, v < n ∧ v < 100 ∧ G_Reader_number N s 0 (nI n - 1) = some (nI v, atS s j) ∧ nmb b i = .inr (v, j) ∧ i + 2 ≤ j ∧ j ≤ L) := by
  have zr : (0 : Int32) = nI 0 := rfl
  have hL := hx.1.1
  cases e : nmb b i with
  | inl f =>
    obtain ⟨x1, s1, g1, g2, g3, g4⟩ := c_num_f (N := N) (p0 := 0) (p1 := nI n - 1) hN hx hi2 ha hw e
    exact Or.inl ⟨f, x1, s1, g1, g2, g3, g4, nmb_f hx.1 hi2 e, fun ok _ => nmR_l e⟩
  | inr p =>
    obtain ⟨v, j⟩ := p
    have hb := nmb_b hx.1 hi2 e
    obtain ⟨cg, cb⟩ := c_num_g (N := N) (p0 := 0) (p1 := nI n - 1) hN hx hi2 ha hw e
    by_cases o : v < n
    · exact Or.inr ⟨v, j, o, hb.1, cg (by rw [zr]; exact nI_nlt (by omega) (by omega)) ((nI_le_m1 (by omega) (by omega)).mpr o), rfl, hb.2⟩
    · have g := cb (Or.inr (fun y => o ((nI_le_m1 (by omega) (by omega)).mp y)))
      refine Or.inl ⟨j - 1, _, _, g, by rw [wr1_at, if_pos rfl], by rw [wr1_at, if_neg (by decide), atS_j (by decide)], fun k hk => by rw [wr1_ne hk, atS_k hk], by omega, fun ok h => nmR_n e (fun y => o (h v y))⟩
theorem w_j64 (hf : FX D hi) (hp : PL D hi P) (hc : CPc s P A) (hn : q_nc A ≤ 7) (hw : ¬ s.1 3 2 = -1) : F_Reader_readJoint_64 N (B + 3) (B + P) x y w (mkM h0 B D hi z s) = some (mkM h0 B D hi z s) := by
  obtain ⟨v, e⟩ := d_pairsOf_a (N := N) (h0 := h0) (B := B) (z := z) (x := w) hp hc hn
  unfold F_Reader_readJoint_64 F_Reader_readJoint_106
  rw [e, Option.bind_some]
  dsimp only
  rw [F_num hf (c_num_w hw), Option.bind_some]
  dsimp only
  rw [rdm_3_2 hf, Option.bind_some, if_neg hw]
theorem w_J4 (hf : FX D hi) (hp : PL D hi P) (hc : CPc s P A) (hn : q_nc A ≤ 7) (hX : WFx A) (hb : q_nb A ≤ 8) (hw : ¬ s.1 3 2 = -1) : J4 N (B + 3) (B + P) x y w (mkM h0 B D hi z s) = some (mkM h0 B D hi z s) := by
  obtain ⟨v, e⟩ := d_meet_a (N := N) (h0 := h0) (B := B) (z := z) (x := x) (y := w) hp hc hn hX hb
  unfold J4
  rw [e, Option.bind_some]
  dsimp only
  rw [rdm_3_1 hf, Option.bind_some, F_fail hf (g_fail_n hw), Option.bind_some, w_j64 hf hp hc hn hw, ite_self]
theorem w_J3 (hf : FX D hi) (hp : PL D hi P) (hc : CPc s P A) (hn : q_nc A ≤ 7) (hX : WFx A) (hb : q_nb A ≤ 8) (hw : ¬ s.1 3 2 = -1) : J3 N (B + 3) (B + P) x y (mkM h0 B D hi z s) = some (mkM h0 B D hi z s) := by
  unfold J3
  rw [pl_1 hp, Option.bind_some]
  dsimp only
  rw [c_size (pl_L1 hp), Option.bind_some]
  dsimp only
  rw [F_num hf (c_num_w hw), Option.bind_some]
  exact w_J4 hf hp hc hn hX hb hw
theorem w_J2 (hf : FX D hi) (hp : PL D hi P) (hc : CPc s P A) (hn : q_nc A ≤ 7) (hX : WFx A) (hb : q_nb A ≤ 8) (hw : ¬ s.1 3 2 = -1) : J2 N (B + 3) (B + P) x (mkM h0 B D hi z s) = some (mkM h0 B D hi z s) := by
  obtain ⟨v, e⟩ := d_pairsOf_a (N := N) (h0 := h0) (B := B) (z := z) (x := x) hp hc hn
  unfold J2
  rw [e, Option.bind_some]
  dsimp only
  rw [F_num hf (c_num_w hw), Option.bind_some]
  exact w_J3 hf hp hc hn hX hb hw
theorem w_H3 (hf : FX D hi) (hw : ¬ s.1 3 2 = -1) : H3 N (B + 3) (B + P) x y (mkM h0 B D hi z s) = some (mkM h0 B D hi z s) := by
  unfold H3 F_Reader_readHouse_59
  rw [F_num hf (c_num_w hw), Option.bind_some]
  dsimp only
  rw [rdm_3_2 hf, Option.bind_some, if_neg hw]
theorem w_H2 (hf : FX D hi) (hp : PL D hi P) (hc : CPc s P A) (hn : q_nc A ≤ 7) (hw : ¬ s.1 3 2 = -1) : H2 N (B + 3) (B + P) x (mkM h0 B D hi z s) = some (mkM h0 B D hi z s) := by
  obtain ⟨v, e⟩ := d_pairsOf_a (N := N) (h0 := h0) (B := B) (z := z) (x := x) hp hc hn
  unfold H2
  rw [e, Option.bind_some]
  dsimp only
  rw [F_num hf (c_num_w hw), Option.bind_some]
  exact w_H3 hf hw
/-- the text's layout is worked -/
theorem d_op (hp : PL D hi P) (hP : P = 58 ∨ 130 ≤ P) (hA : DA A) {k u v : Nat} (hA' : DA (aO A k u v)) (hl : CL s (P + 5) (q_ly A (q_nq A))) : ∃ s', F_Layout_work N (mkM h0 B D hi z s) (B + (P + 5)) (nI k) (nI u) (nI v) = some (mkM h0 B D hi z (s')) ∧ Fm (fun q => P + 5 < q ∧ q ≤ P + 5 + 4) s s' ∧ CL s' (P + 5) (q_ly (aO A k u v) (q_nq (aO A k u v))) := by
  have hle : q_nq A < q_nq (aO A k u v) + q_ns (aO A k u v) := by rw [aO_nq]; omega
  have hT : CL s (P + 5) (q_ly (aO A k u v) (q_nq A)) := by rw [aO_ly]; exact hl
  obtain ⟨s2, w1, w2, w3⟩ := c_work (N := N) (h0 := h0) (B := B) (z := z) hA'.1 hle (LV_ly hA'.1 _ (by omega)) (LX_ly hA'.1 _ (by omega)) (pl_T5 hp) hT
  rw [aO_ok, aO_os, aO_ow, updN_s, updN_s, updN_s] at w1
  refine ⟨s2, w1, w2, ?_⟩
  rw [aO_nq]
  exact w3
theorem d_join {S : pm_S} {q : Nat} (hr : rcv S q 1 = true) : F_Layout_work N S q (nI 0) x y = F_Layout_join N S q x y := by
  unfold F_Layout_work F_Layout_work_19
  rw [hr, if_pos rfl, if_pos nI_0]
  cases F_Layout_join N S q x y <;> rfl
theorem d_hang {S : pm_S} {q : Nat} (hr : rcv S q 1 = true) : F_Layout_work N S q (nI 1) x y = F_Layout_hang N S q x y := by
  unfold F_Layout_work F_Layout_work_19
  rw [hr, if_pos rfl, if_neg (show ¬ nI 1 = 0 from i10)]
  cases F_Layout_hang N S q x y <;> rfl
end JNT
