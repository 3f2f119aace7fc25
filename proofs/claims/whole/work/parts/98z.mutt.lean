/-! ===== a row more: trouble ===== -/
theorem upF_s {A : AP} {f : Nat} {g : Nat → Nat} : upF A f g f = g := if_pos rfl
theorem upF_n {A : AP} {f f' : Nat} {g : Nat → Nat} (h : f' ≠ f) : upF A f g f' = A f' := if_neg h
section LAD
variable {s : mst} {L c k : Nat} {p0 p1 p2 p3 p4 : Int32}
theorem ladd_ne (h1 : k ≠ L) (h2 : k ≠ L + 1) : (ladd s L c p0 p1 p2 p3 p4).1 k = s.1 k := by
  unfold ladd
  rw [wr1_ne h1, wr1_ne h2, wr1_ne h2, wr1_ne h2, wr1_ne h2, wr1_ne h2]
theorem ladd_2 : (ladd s L c p0 p1 p2 p3 p4).1 L 2 = nI (c + 1) := by
  unfold ladd
  rw [wr1_at, if_pos rfl]
theorem ladd_L {j : Nat} (hj : j ≠ 2) : (ladd s L c p0 p1 p2 p3 p4).1 L j = s.1 L j := by
  unfold ladd
  rw [wr1_at, if_neg hj, wr1_ne (by omega), wr1_ne (by omega), wr1_ne (by omega), wr1_ne (by omega), wr1_ne (by omega)]
theorem ladd_c : ∀ j, (ladd s L c p0 p1 p2 p3 p4).1 (L + 1) j = if j = 5 * c + 4 then p4 else if j = 5 * c + 3 then p3 else if j = 5 * c + 2 then p2 else if j = 5 * c + 1 then p1 else if j = 5 * c then p0 else s.1 (L + 1) j := by
  intro j
  unfold ladd
  rw [wr1_ne (by omega), wr1_at, wr1_at, wr1_at, wr1_at, wr1_at]
theorem ladd_0 : (ladd s L c p0 p1 p2 p3 p4).1 (L + 1) (5 * k + 0) = if k = c then p0 else s.1 (L + 1) (5 * k + 0) := by
  rw [ladd_c, if_neg (by omega), if_neg (by omega), if_neg (by omega), if_neg (by omega)]
  by_cases h : k = c
  · rw [if_pos h, if_pos (by omega)]
  · rw [if_neg h, if_neg (by omega)]
theorem ladd_1 : (ladd s L c p0 p1 p2 p3 p4).1 (L + 1) (5 * k + 1) = if k = c then p1 else s.1 (L + 1) (5 * k + 1) := by
  rw [ladd_c, if_neg (by omega), if_neg (by omega), if_neg (by omega)]
  by_cases h : k = c
  · rw [if_pos h, if_pos (by omega)]
  · rw [if_neg h, if_neg (by omega), if_neg (by omega)]
theorem ladd_22 : (ladd s L c p0 p1 p2 p3 p4).1 (L + 1) (5 * k + 2) = if k = c then p2 else s.1 (L + 1) (5 * k + 2) := by
  rw [ladd_c, if_neg (by omega), if_neg (by omega)]
  by_cases h : k = c
  · rw [if_pos h, if_pos (by omega)]
  · rw [if_neg h, if_neg (by omega), if_neg (by omega), if_neg (by omega)]
theorem ladd_3 : (ladd s L c p0 p1 p2 p3 p4).1 (L + 1) (5 * k + 3) = if k = c then p3 else s.1 (L + 1) (5 * k + 3) := by
  rw [ladd_c, if_neg (by omega)]
  by_cases h : k = c
  · rw [if_pos h, if_pos (by omega)]
  · rw [if_neg h, if_neg (by omega), if_neg (by omega), if_neg (by omega), if_neg (by omega)]
theorem ladd_4 : (ladd s L c p0 p1 p2 p3 p4).1 (L + 1) (5 * k + 4) = if k = c then p4 else s.1 (L + 1) (5 * k + 4) := by
  rw [ladd_c]
  by_cases h : k = c
  · rw [if_pos h, if_pos (by omega)]
  · rw [if_neg h, if_neg (by omega), if_neg (by omega), if_neg (by omega), if_neg (by omega), if_neg (by omega)]
end LAD
theorem SH_0 {D : Nat → pd} {hi t P : Nat} {ow : Nat → Nat} {s : mst} {A : AP} (hC : COL D hi ow s t P) (e2 : s.1 (P + 24) 2 = nI 0) (e4 : s.1 (P + 24) 4 = nI 0) : SH D hi ow s t P A :=
  ⟨⟨hC, 0, e2, by decide, fun j hj => by rw [Nat.zero_testBit] at hj; exact absurd hj (by decide)⟩, Or.inl e4⟩
theorem COL_e {D : Nat → pd} {hi t P : Nat} {ow : Nat → Nat} {s s' : mst} (hC : COL D hi ow s t P) (e : s'.1 (P + 25) = s.1 (P + 25)) : COL D hi ow s' t P := by
  unfold COL at hC ⊢
  rw [e]
  exact hC
/-- a trouble more -/
def aT (A : AP) (k x p q d : Nat) : AP := upF (upF (upF (upF (upF (upF A 0 (updN (A 0) 4 (q_nt A + 1))) 8 (updN (A 8) (q_nt A) k)) 9 (updN (A 9) (q_nt A) x)) 10 (updN (A 10) (q_nt A) p)) 11 (updN (A 11) (q_nt A) q)) 12 (updN (A 12) (q_nt A) d)
section TRT
variable {h0 : Nat → pm_C} {B : Nat} {D : Nat → pd} {hi z : Nat} {s : mst} {N np : Nat} {As : Nat → AP} {Ps ow : Nat → Nat} {P L : Nat} {bt : Nat → Nat} {A : AP} {p0 p1 p2 p3 p4 p5 : Int32} {k x p q d t : Nat} {eb : Nat}
theorem aT_ag : AG A (aT A k x p q d) [8, 9, 10, 11, 12] [4] := by
  refine ⟨fun f f0 hf => ?_, fun i hi => ?_⟩
  · unfold aT
    rw [upF_n (fun e => hf (by rw [e]; decide)), upF_n (fun e => hf (by rw [e]; decide)), upF_n (fun e => hf (by rw [e]; decide)), upF_n (fun e => hf (by rw [e]; decide)), upF_n (fun e => hf (by rw [e]; decide)), upF_n f0]
  · unfold aT
    rw [upF_n (by decide), upF_n (by decide), upF_n (by decide), upF_n (by decide), upF_n (by decide), upF_s]
    exact updN_n (fun e => hi (by rw [e]; decide))
theorem aT_nt : q_nt (aT A k x p q d) = q_nt A + 1 := by
  show aT A k x p q d 0 4 = _
  unfold aT
  rw [upF_n (by decide), upF_n (by decide), upF_n (by decide), upF_n (by decide), upF_n (by decide), upF_s, updN_s]
theorem aT_tk : q_tk (aT A k x p q d) = updN (q_tk A) (q_nt A) k := by
  show aT A k x p q d 8 = _
  unfold aT
  rw [upF_n (by decide), upF_n (by decide), upF_n (by decide), upF_n (by decide), upF_s]
  rfl
theorem aT_tx : q_tx (aT A k x p q d) = updN (q_tx A) (q_nt A) x := by
  show aT A k x p q d 9 = _
  unfold aT
  rw [upF_n (by decide), upF_n (by decide), upF_n (by decide), upF_s]
  rfl
theorem aT_tp : q_tp (aT A k x p q d) = updN (q_tp A) (q_nt A) p := by
  show aT A k x p q d 10 = _
  unfold aT
  rw [upF_n (by decide), upF_n (by decide), upF_s]
  rfl
theorem aT_tq : q_tq (aT A k x p q d) = updN (q_tq A) (q_nt A) q := by
  show aT A k x p q d 11 = _
  unfold aT
  rw [upF_n (by decide), upF_s]
  rfl
theorem aT_td : q_td (aT A k x p q d) = updN (q_td A) (q_nt A) d := by
  show aT A k x p q d 12 = _
  unfold aT
  rw [upF_s]
  rfl
theorem aT_WF (hA : WF A) (hn : q_nt A < 10) (h : TRn A p1 p2 p3 p4 p5 k x p q d) : WF (aT A k x p q d) := by
  obtain ⟨a1, a2, a3, a4, a5, a6, a7, a8⟩ := hA
  have g := aT_ag (A := A) (k := k) (x := x) (p := p) (q := q) (d := d)
  refine ⟨?_, ag_WFx g (by decide) (by decide) (by decide) (by decide) (by decide) (by decide) a2, ag_WFd g (by decide) (by decide) a3, ag_WFo g (by decide) (by decide) (by decide) (by decide) (by decide) (by decide) (by decide) (by decide) (by decide) a4, ?_, ag_WFe g (by decide) (by decide) (by decide) (by decide) (by decide) (by decide) (by decide) (by decide) a6, ag_WFr g (by decide) (by decide) (by decide) (by decide) (by decide) a7, ag_WFw g (by decide) a8⟩
  · unfold WFc at a1 ⊢
    rw [ag_nb g (by decide), ag_nc g (by decide), ag_nq g (by decide), ag_ns g (by decide), aT_nt, ag_ne g (by decide), ag_nr g (by decide)]
    omega
  · intro i hi
    rw [aT_nt] at hi
    rw [aT_tk, aT_tx, aT_tp, aT_tq, aT_td, ag_ns g (by decide), ag_nc g (by decide), ag_pr g (by decide), ag_ln g (by decide)]
    by_cases c : i = q_nt A
    · subst c
      rw [updN_s, updN_s, updN_s, updN_s, updN_s]
      obtain ⟨_, h2, _, h4, h5, h6, h7⟩ := h
      exact ⟨h2, h4, fun y => ⟨(h5 y).1, (h5 y).2.1⟩, fun y => ⟨(h6 y).1, (h6 y).2.1⟩, fun y => (h7 y).1⟩
    · rw [updN_n c, updN_n c, updN_n c, updN_n c, updN_n c]
      exact a5 i (by omega)
theorem c_addT (hp : PL D hi P) (hcp : CPt s P A) (hn : q_nt A < 10) : F_Plan_addTrouble N (mkM h0 B D hi z s) (B + P) p1 p2 p3 p4 p5 = some (nI (q_nt A), (mkM h0 B D hi z (wr1 (wr1 (ladd s (P + 17) (q_nt A) p1 p2 p3 p4 p5) (P + 24) 2 0) (P + 24) 4 0))) := by
  unfold F_Plan_addTrouble F_Plan_addTrouble_29 F_Sheet_forgetAll
  rw [pl_rc hp, if_pos rfl, pl_7 hp]
  dsimp only [Option.bind_some]
  rw [c_add (pl_L17 hp) hcp.1 hcp.2.1 hn (by decide)]
  dsimp only [Option.bind_some]
  rw [if_neg (nI_n1 (by omega)), pl_11 hp]
  dsimp only [Option.bind_some]
  rw [sh_rc hp, if_pos rfl, sw_2 hp]
  dsimp only [Option.bind_some]
  rw [sw_4 hp (Or.inl rfl)]
  rfl
theorem c_addT_f (hp : PL D hi P) (hcp : CPt s P A) (hn : q_nt A = 10) : F_Plan_addTrouble N (mkM h0 B D hi z s) (B + P) p1 p2 p3 p4 p5 = some (-1, (mkM h0 B D hi z s)) := by
  unfold F_Plan_addTrouble F_Plan_addTrouble_29
  rw [pl_rc hp, if_pos rfl, pl_7 hp]
  dsimp only [Option.bind_some]
  rw [c_add_f (pl_L17 hp) hcp.1 hcp.2.1 (by omega) (by omega)]
  dsimp only [Option.bind_some]
  rw [if_pos rfl]
theorem r_addT (ht : t < 6) (hn : k < 10) (e : s.1 100 t = nI k) : G_M_trouble_119 N (nI t) p1 p2 p3 p4 p5 1 s = some (nI k, wr1 (wr1 (wr1 (wr1 (wr1 (wr1 s 101 (10 * t + k) p1) 102 (10 * t + k) p2) 103 (10 * t + k) p3) 104 (10 * t + k) p4) 105 (10 * t + k) p5) 100 t (nI (k + 1))) := by
  unfold G_M_trouble_119
  rw [if_neg i10, rdA_nI (by omega) (by decide), Option.bind_some, e, L_10, nI_mul, nI_add, stA_nI (by omega) (by decide), Option.bind_some, stA_nI (by omega) (by decide), Option.bind_some, stA_nI (by omega) (by decide), Option.bind_some, stA_nI (by omega) (by decide), Option.bind_some, stA_nI (by omega) (by decide), Option.bind_some, rdA_nI (by omega) (by decide), Option.bind_some]
  rw [wr1_ne (by decide), wr1_ne (by decide), wr1_ne (by decide), wr1_ne (by decide), wr1_ne (by decide), e, nI_1, stA_nI (by omega) (by decide), Option.bind_some, rdA_nI (by omega) (by decide), Option.bind_some, wr1_at, if_pos rfl, nI_pred]
theorem st_trouble : STP eb h0 B (fun S => F_BP_trouble N S (B + 0) p0 p1 p2 p3 p4 p5) (fun s => G_M_trouble N s p0 p1 p2 p3 p4 p5) := by
  intro D hi z s ⟨ow, np, As, Ps, P, L, bt, h⟩
  have h1 := h.1.1
  have i0 := INV_rps h.1
  have no : ∀ (e1 : F_BP_trouble N (mkM h0 B D hi z s) (B + 0) p0 p1 p2 p3 p4 p5 = some (-1, mkM h0 B D hi z s)) (e2 : G_M_trouble N s p0 p1 p2 p3 p4 p5 = some (-1, wrI s 85 0 0)), ∃ ans D' hi' z' s1 s3, F_BP_trouble N (mkM h0 B D hi z s) (B + 0) p0 p1 p2 p3 p4 p5 = some (ans, mkM h0 B D' hi' z' s1) ∧ FX D' hi' ∧ G_M_trouble N s1 p0 p1 p2 p3 p4 p5 = some (ans, s3) ∧ IAX eb D' hi' z' s3 := fun e1 e2 => ⟨-1, D, hi, z, s, _, e1, h1, e2, ow, np, As, Ps, P, L, bt, IA_q h (fun _ _ => rfl) h.1.2.2.2.1 Me_0⟩
  by_cases c0 : okn np p0
  · obtain ⟨t, ht, rfl⟩ := c0
    obtain ⟨a1, a2, a3, a4, a5, a6, a7, a8, a9⟩ := h.1.2.2.2.2.2.2.2.2 t ht
    have hnp := i0.2.1
    have hc := a5.1
    unfold WFc at hc
    have pre : F_BP_trouble N (mkM h0 B D hi z s) (B + 0) (nI t) p1 p2 p3 p4 p5 = (F_Plan_canHaveTrouble N (mkM h0 B D hi z s) (B + Ps t) p1 p2 p3 p4 p5).bind fun (v4, S3) => if v4 = 0 then some (-1, S3) else (F_Plan_addTrouble N S3 (B + Ps t) p1 p2 p3 p4 p5).bind fun (v6, S5) => some (v6, S5) := by
      unfold F_BP_trouble F_BP_trouble_28
      rw [rcm_0 h1, if_pos rfl, c_planAt_t h.1 ht]
      rfl
    by_cases hfull : q_nt (As t) = 10
    · refine no ?_ ?_
      · rw [pre]
        rcases c_can (N := N) (h0 := h0) (B := B) (z := z) (p1 := p1) (p2 := p2) (p3 := p3) (p4 := p4) (p5 := p5) a1 a6 a5 with ⟨e, _⟩ | ⟨e, _⟩
        · rw [e]
          dsimp only [Option.bind_some]
          rw [if_neg i10, c_addT_f a1 a6.2.2.2.1 hfull]
          rfl
        · rw [e]
          dsimp only [Option.bind_some]
          rw [if_pos rfl]
      · have i1 := rps0 i0
        unfold G_M_trouble G_M_trouble_33
        rw [r_isPlan_t i1.1 i1.2.1 ht, Option.bind_some]
        dsimp only
        rw [if_neg i10, rdA_nI (by omega) (by decide), Option.bind_some, rp_nt (i1.2.2 t ht).2, hfull]
        exact if_pos rfl
    · by_cases cT : TRB (As t) p1 p2 p3 p4 p5
      · obtain ⟨k, x, p, q, d, hT⟩ := TRB_n a5 cT
        have e1 : F_Plan_canHaveTrouble N (mkM h0 B D hi z s) (B + Ps t) p1 p2 p3 p4 p5 = some (1, mkM h0 B D hi z s) := by
          rcases c_can (N := N) (h0 := h0) (B := B) (z := z) (p1 := p1) (p2 := p2) (p3 := p3) (p4 := p4) (p5 := p5) a1 a6 a5 with ⟨e, _⟩ | ⟨_, e⟩
          · exact e
          · exact absurd cT e
        have hn : q_nt (As t) < 10 := by omega
        generalize hs1 : wr1 (wr1 (ladd s (Ps t + 17) (q_nt (As t)) p1 p2 p3 p4 p5) (Ps t + 24) 2 0) (Ps t + 24) 4 0 = s1
        have f1 : F_BP_trouble N (mkM h0 B D hi z s) (B + 0) (nI t) p1 p2 p3 p4 p5 = some (nI (q_nt (As t)), mkM h0 B D hi z s1) := by
          rw [pre, e1]
          dsimp only [Option.bind_some]
          rw [if_neg i10, c_addT a1 a6.2.2.2.1 hn, hs1]
          rfl
        have hq := (pl_A26 a1).1
        -- the class's cells
        have k1 : ∀ m, m ≠ Ps t + 17 → m ≠ Ps t + 18 → m ≠ Ps t + 24 → s1.1 m = s.1 m := by
          intro m m1 m2 m3
          rw [← hs1, wr1_ne m3, wr1_ne m3, ladd_ne m1 m2]
        have kr : ∀ m, 85 ≤ m → m < 130 → s1.1 m = s.1 m := fun m m1 m2 => k1 m (by omega) (by omega) (by omega)
        have i1 : RPs s1 np As := by
          refine ⟨by rw [kr 85 (by omega) (by omega)]; exact i0.1, i0.2.1, fun t' ht' => ⟨(i0.2.2 t' ht').1, RP_eq (i0.2.2 t' ht').2 (fun m hm => ?_)⟩⟩
          have hp1 : ∀ k, k ∈ pers → 85 ≤ k ∧ k < 130 := by decide
          exact kr m (hp1 m hm).1 (hp1 m hm).2
        have i2 := rps0 i1
        have e2 : G_M_trouble N s1 (nI t) p1 p2 p3 p4 p5 = G_M_trouble_119 N (nI t) p1 p2 p3 p4 p5 1 (wrI s1 85 0 0) := by
          rcases r_can (N := N) (p1 := p1) (p2 := p2) (p3 := p3) (p4 := p4) (p5 := p5) i1 ht hfull with ⟨e, _⟩ | ⟨_, e⟩
          · exact e
          · exact absurd cT e
        have e3 := r_addT (N := N) (p1 := p1) (p2 := p2) (p3 := p3) (p4 := p4) (p5 := p5) (show t < 6 by omega) hn (rp_nt (i2.2.2 t ht).2)
        generalize hs0 : wrI s1 85 0 0 = s0 at e2 e3 i2
        generalize hs3 : wr1 (wr1 (wr1 (wr1 (wr1 (wr1 s0 101 (10 * t + q_nt (As t)) p1) 102 (10 * t + q_nt (As t)) p2) 103 (10 * t + q_nt (As t)) p3) 104 (10 * t + q_nt (As t)) p4) 105 (10 * t + q_nt (As t)) p5) 100 t (nI (q_nt (As t) + 1)) = s3 at e3
        have m0 : Md [] [0] s1 s0 := by rw [← hs0]; exact Md_f (by decide)
        have w3 : ∀ m, m ≠ 100 → m ≠ 101 → m ≠ 102 → m ≠ 103 → m ≠ 104 → m ≠ 105 → s3.1 m = s0.1 m := by
          intro m m0 m1 m2 m3 m4 m5
          rw [← hs3, wr1_ne m0, wr1_ne m5, wr1_ne m4, wr1_ne m3, wr1_ne m2, wr1_ne m1]
        have w0 : ∀ m, m ≠ 85 → s0.1 m = s1.1 m := fun m hm => m0.1 m (by simp) hm
        have x101 : ∀ j, s3.1 101 j = if j = 10 * t + q_nt (As t) then p1 else s0.1 101 j := by
          intro j
          rw [← hs3, wr1_ne (by decide), wr1_ne (by decide), wr1_ne (by decide), wr1_ne (by decide), wr1_ne (by decide), wr1_at]
        have x102 : ∀ j, s3.1 102 j = if j = 10 * t + q_nt (As t) then p2 else s0.1 102 j := by
          intro j
          rw [← hs3, wr1_ne (by decide), wr1_ne (by decide), wr1_ne (by decide), wr1_ne (by decide), wr1_at, wr1_ne (by decide)]
        have x103 : ∀ j, s3.1 103 j = if j = 10 * t + q_nt (As t) then p3 else s0.1 103 j := by
          intro j
          rw [← hs3, wr1_ne (by decide), wr1_ne (by decide), wr1_ne (by decide), wr1_at, wr1_ne (by decide), wr1_ne (by decide)]
        have x104 : ∀ j, s3.1 104 j = if j = 10 * t + q_nt (As t) then p4 else s0.1 104 j := by
          intro j
          rw [← hs3, wr1_ne (by decide), wr1_ne (by decide), wr1_at, wr1_ne (by decide), wr1_ne (by decide), wr1_ne (by decide)]
        have x105 : ∀ j, s3.1 105 j = if j = 10 * t + q_nt (As t) then p5 else s0.1 105 j := by
          intro j
          rw [← hs3, wr1_ne (by decide), wr1_at, wr1_ne (by decide), wr1_ne (by decide), wr1_ne (by decide), wr1_ne (by decide)]
        have x100 : ∀ j, s3.1 100 j = if j = t then nI (q_nt (As t) + 1) else s0.1 100 j := by
          intro j
          rw [← hs3, wr1_at, wr1_ne (by decide), wr1_ne (by decide), wr1_ne (by decide), wr1_ne (by decide), wr1_ne (by decide)]
        -- all cells of the class, from s to s3
        have y3 : ∀ m, m < 85 ∨ m = 86 ∨ 130 ≤ m → s3.1 m = s1.1 m := fun m hm => by rw [w3 m (by omega) (by omega) (by omega) (by omega) (by omega) (by omega), w0 m (by omega)]
        have z3 : ∀ m, m < 85 ∨ m = 86 ∨ 130 ≤ m → m ≠ Ps t + 17 → m ≠ Ps t + 18 → m ≠ Ps t + 24 → s3.1 m = s.1 m := fun m hm m1 m2 m3 => (y3 m hm).trans (k1 m m1 m2 m3)
        have l17 : ∀ j, s3.1 (Ps t + 17) j = (ladd s (Ps t + 17) (q_nt (As t)) p1 p2 p3 p4 p5).1 (Ps t + 17) j := by
          intro j
          rw [y3 _ (by omega), ← hs1, wr1_ne (by omega), wr1_ne (by omega)]
        have l18 : ∀ j, s3.1 (Ps t + 17 + 1) j = (ladd s (Ps t + 17) (q_nt (As t)) p1 p2 p3 p4 p5).1 (Ps t + 17 + 1) j := by
          intro j
          rw [y3 _ (by omega), ← hs1, wr1_ne (by omega), wr1_ne (by omega)]
        have l24 : ∀ j, s3.1 (Ps t + 24) j = if j = 4 then 0 else if j = 2 then 0 else s.1 (Ps t + 24) j := by
          intro j
          rw [y3 _ (by omega), ← hs1, wr1_at, wr1_at, ladd_ne (by omega) (by omega)]
        have g := aT_ag (A := As t) (k := k) (x := x) (p := p) (q := q) (d := d)
        obtain ⟨c1, c2, c3, c4, c5, c6, c7⟩ := a6
        obtain ⟨r1, r2, r3, r4, r5, r6⟩ := (i2.2.2 t ht).2
        obtain ⟨t1, t2, t3, t4, t5, t6, t7⟩ := id hT
        refine ⟨nI (q_nt (As t)), D, hi, z, s1, s3, f1, h1, e2.trans e3, ow, np, updA As t (aT (As t) k x p q d), Ps, P, L, bt, IA_mut h ht (fun m m1 m2 => z3 m m1 (by omega) (by omega) (by omega)) ?_ ?_ ?_ (aT_WF a5 hn hT) ⟨?_, ?_, ?_, ?_, ?_, ?_, ?_⟩ (SH_0 (COL_e a7.1.1 (z3 _ (by omega) (by omega) (by omega) (by omega))) (by rw [l24, if_neg (by decide), if_pos rfl]; rfl) (by rw [l24, if_pos rfl]; rfl)) ⟨?_, ?_, ?_, ?_, ?_, ?_⟩⟩
        · rw [w3 85 (by decide) (by decide) (by decide) (by decide) (by decide) (by decide), m0.2.1 2 (by decide), kr 85 (by omega) (by omega)]
        · rw [w3 85 (by decide) (by decide) (by decide) (by decide) (by decide) (by decide), m0.2.1 19 (by decide), kr 85 (by omega) (by omega)]
        · refine OTH_t (s' := s0) (OTH_e (fun m hm => ?_)) ?_
          · have hp1 : ∀ k, k ∈ pers → 85 < k ∧ k < 130 := by decide
            have := hp1 m hm
            rw [w0 m (by omega), kr m (by omega) (by omega)]
          · rw [← hs3]
            have hb : ∀ m, 101 ≤ m → m ≤ 105 → bz m = 10 := by
              intro m m1 m2
              rcases (show m = 101 ∨ m = 102 ∨ m = 103 ∨ m = 104 ∨ m = 105 by omega) with e | e | e | e | e <;> (subst e; rfl)
            have ow10 : ∀ (s' : mst) m (y : Int32), 101 ≤ m → m ≤ 105 → OTH t s' (wr1 s' m (10 * t + q_nt (As t)) y) := by
              intro s' m y m1 m2
              have := OTH_w (t := t) (k := m) (v := q_nt (As t)) (s := s') (x := y) (by rw [hb m m1 m2]; omega)
              rw [hb m m1 m2] at this
              exact this
            have o100 : ∀ (s' : mst) (y : Int32), OTH t s' (wr1 s' 100 t y) := by
              intro s' y
              have := OTH_w (t := t) (k := 100) (v := 0) (s := s') (x := y) (by decide)
              rw [show bz 100 * t + 0 = t from by rw [show bz 100 = 1 from rfl]; omega] at this
              exact this
            exact OTH_t (OTH_t (OTH_t (OTH_t (OTH_t (ow10 _ 101 _ (by omega) (by omega)) (ow10 _ 102 _ (by omega) (by omega))) (ow10 _ 103 _ (by omega) (by omega))) (ow10 _ 104 _ (by omega) (by omega))) (ow10 _ 105 _ (by omega) (by omega))) (o100 _ _)
        · exact CPc_e (ag_CPc g (by decide) (by decide) (by decide) (by decide) (by decide) (by decide) c1) (fun m m1 m2 => z3 m (by omega) (by omega) (by omega) (by omega))
        · exact CPl_e (ag_CPl g (by decide) (by decide) (by decide) (by decide) (by decide) (by decide) (by decide) (by decide) c2) (fun m m1 m2 => z3 m (by omega) (by omega) (by omega) (by omega))
        · exact CPs_e (ag_CPs g (by decide) (by decide) (by decide) (by decide) (by decide) c3) (fun m m1 m2 => z3 m (by omega) (by omega) (by omega) (by omega))
        · refine ⟨by rw [l17, ladd_2, aT_nt], by rw [l17, ladd_L (by decide)]; exact c4.2.1, fun i hi => ?_⟩
          rw [aT_nt] at hi
          rw [l18, l18, l18, l18, l18, ladd_0, ladd_1, ladd_22, ladd_3, ladd_4, aT_tk, aT_tx, aT_tp, aT_tq, aT_td]
          by_cases c : i = q_nt (As t)
          · subst c
            rw [if_pos rfl, if_pos rfl, if_pos rfl, if_pos rfl, if_pos rfl, updN_s, updN_s, updN_s, updN_s, updN_s]
            exact ⟨t1, t3, fun y => (t5 y).2.2, fun y => (t6 y).2.2, fun y => (t7 y).2⟩
          · rw [if_neg c, if_neg c, if_neg c, if_neg c, if_neg c, updN_n c, updN_n c, updN_n c, updN_n c, updN_n c]
            exact c4.2.2 i (by omega)
        · exact CPe_e (ag_CPe g (by decide) (by decide) (by decide) (by decide) (by decide) (by decide) c5) (fun m m1 m2 => z3 m (by omega) (by omega) (by omega) (by omega))
        · exact CPr_e (ag_CPr g (by decide) (by decide) (by decide) (by decide) c6) (fun m m1 m2 => z3 m (by omega) (by omega) (by omega) (by omega))
        · exact CPw_e (ag_CPw g (by decide) c7) (fun m m1 m2 => z3 m (by omega) (by omega) (by omega) (by omega))
        · exact RPc_e (ag_RPc g (by decide) (by decide) (by decide) (by decide) (by decide) (by decide) r1) (fun m hm => w3 m (by intro e; subst e; revert hm; decide) (by intro e; subst e; revert hm; decide) (by intro e; subst e; revert hm; decide) (by intro e; subst e; revert hm; decide) (by intro e; subst e; revert hm; decide) (by intro e; subst e; revert hm; decide))
        · exact RPo_e (ag_RPo g (by decide) (by decide) (by decide) (by decide) (by decide) r2) (fun m hm => w3 m (by intro e; subst e; revert hm; decide) (by intro e; subst e; revert hm; decide) (by intro e; subst e; revert hm; decide) (by intro e; subst e; revert hm; decide) (by intro e; subst e; revert hm; decide) (by intro e; subst e; revert hm; decide))
        · refine ⟨by rw [x100, if_pos rfl, aT_nt], fun i hi => ?_⟩
          rw [aT_nt] at hi
          rw [x101, x102, x103, x104, x105, aT_tk, aT_tx, aT_tp, aT_tq, aT_td]
          by_cases c : i = q_nt (As t)
          · subst c
            rw [if_pos rfl, if_pos rfl, if_pos rfl, if_pos rfl, if_pos rfl, updN_s, updN_s, updN_s, updN_s, updN_s]
            exact ⟨t1, t3, fun y => (t5 y).2.2, fun y => (t6 y).2.2, fun y => (t7 y).2⟩
          · rw [if_neg (by omega), if_neg (by omega), if_neg (by omega), if_neg (by omega), if_neg (by omega), updN_n c, updN_n c, updN_n c, updN_n c, updN_n c]
            exact r3.2 i (by omega)
        · exact RPe_e (ag_RPe g (by decide) (by decide) (by decide) (by decide) (by decide) (by decide) r4) (fun m hm => w3 m (by intro e; subst e; revert hm; decide) (by intro e; subst e; revert hm; decide) (by intro e; subst e; revert hm; decide) (by intro e; subst e; revert hm; decide) (by intro e; subst e; revert hm; decide) (by intro e; subst e; revert hm; decide))
        · exact RPr_e (ag_RPr g (by decide) (by decide) (by decide) (by decide) r5) (fun m hm => w3 m (by intro e; subst e; revert hm; decide) (by intro e; subst e; revert hm; decide) (by intro e; subst e; revert hm; decide) (by intro e; subst e; revert hm; decide) (by intro e; subst e; revert hm; decide) (by intro e; subst e; revert hm; decide))
        · exact RPw_e (ag_RPw g (by decide) r6) (fun m hm => w3 m (by intro e; subst e; revert hm; decide) (by intro e; subst e; revert hm; decide) (by intro e; subst e; revert hm; decide) (by intro e; subst e; revert hm; decide) (by intro e; subst e; revert hm; decide) (by intro e; subst e; revert hm; decide))
      · refine no ?_ ?_
        · rw [pre]
          rcases c_can (N := N) (h0 := h0) (B := B) (z := z) (p1 := p1) (p2 := p2) (p3 := p3) (p4 := p4) (p5 := p5) a1 a6 a5 with ⟨_, e⟩ | ⟨e, _⟩
          · exact absurd e cT
          · rw [e]
            dsimp only [Option.bind_some]
            rw [if_pos rfl]
        · rcases r_can (N := N) (p1 := p1) (p2 := p2) (p3 := p3) (p4 := p4) (p5 := p5) i0 ht hfull with ⟨_, e⟩ | ⟨e, _⟩
          · exact absurd e cT
          · exact e
  · refine no ?_ ?_
    · unfold F_BP_trouble F_BP_trouble_28
      rw [rcm_0 h1, if_pos rfl, c_planAt_f h.1 c0]
      rfl
    · have i1 := rps0 i0
      unfold G_M_trouble G_M_trouble_33
      rw [r_isPlan_f i1.1 i1.2.1 c0, Option.bind_some]
      dsimp only
      rw [if_pos rfl]
end TRT
