section RDI
variable {h0 : Nat → pm_C} {B : Nat} {D : Nat → pd} {hi z : Nat} {s : mst} {N P L Y i n : Nat} {A : AP} {b : Nat → Nat}
theorem c_lclear (hN : 1000 ≤ N) (h : LT D hi Y) : ∃ s', F_Layout_clear N (mkM h0 B D hi z s) (B + Y) = some (mkM h0 B D hi z (s')) ∧ Fm (fun q => Y < q ∧ q ≤ Y + 4) s s' ∧ CL s' Y (fun _ => 0, fun _ => 0) := by
  obtain ⟨_, _, y1, y2, y3, y4⟩ := id h
  obtain ⟨s1, e1, m1, f1⟩ := c_fill (N := N) (h0 := h0) (B := B) (z := z) (s := s) (x := -1) (by omega) y1
  obtain ⟨s2, e2, m2, f2⟩ := c_fill (N := N) (h0 := h0) (B := B) (z := z) (s := s1) (x := -1) (by omega) y2
  obtain ⟨s3, e3, m3, f3⟩ := c_fill (N := N) (h0 := h0) (B := B) (z := z) (s := s2) (x := -1) (by omega) y3
  obtain ⟨s4, e4, m4, f4⟩ := c_fill (N := N) (h0 := h0) (B := B) (z := z) (s := s3) (x := -1) (by omega) y4
  have z0 : ∀ u, q_ff (fun _ => 0) (u + 1) 56 = 0 := fun u => (q_ff_0 56).mpr (fun i _ => by omega)
  refine ⟨s4, ?_, Fm_t (Fm_m m1 (fun q hq => by omega)) (Fm_t (Fm_m m2 (fun q hq => by omega)) (Fm_t (Fm_m m3 (fun q hq => by omega)) (Fm_m m4 (fun q hq => by omega)))), fun u hu => ⟨?_, ?_, ?_⟩, fun j hj => ?_⟩
  · unfold F_Layout_clear
    rw [yt_rc h, if_pos rfl, yt_0 h, Option.bind_some]
    dsimp only
    rw [e1, Option.bind_some, yt_1 h, Option.bind_some]
    dsimp only
    rw [e2, Option.bind_some, yt_2 h, Option.bind_some]
    dsimp only
    rw [e3, Option.bind_some, yt_3 h, Option.bind_some]
    dsimp only
    rw [e4, Option.bind_some]
  · rw [m4.1 _ (by omega), m3.1 _ (by omega), m2.1 _ (by omega), f1 u hu, cd_0]
  · rw [m4.1 _ (by omega), m3.1 _ (by omega), f2 u hu]
    show -1 = cd (q_ff (fun _ => 0) (u + 1) 56)
    rw [z0, cd_0]
  · rw [m4.1 _ (by omega), f3 u hu, cd_0]
  · rw [f4 j hj]
    show -1 = cd (q_ff (fun _ => 0) (j + 1) 56)
    rw [z0, cd_0]
theorem c_clear (hN : 1000 ≤ N) (hp : PL D hi P) {c : Nat} (hc : c ≤ 7) (h2 : s.1 (P + 1) 2 = nI c) (h1 : s.1 (P + 1) 1 = nI 7) : ∃ s', F_Plan_clearText N (mkM h0 B D hi z s) (B + P) = some (mkM h0 B D hi z (s')) ∧ (∀ k, ¬ (P ≤ k ∧ k < P + 10) → s'.1 k = s.1 k) ∧ s'.1 (P + 1) 2 = nI 0 ∧ s'.1 (P + 1) 1 = nI 7 ∧ (∀ j, j < 8 → s'.1 (P + 3) j = -1) ∧ CL s' (P + 5) (fun _ => 0, fun _ => 0) := by
  have hd : ∃ s1, F_Ledger_dropTo N (mkM h0 B D hi z (wr1 s P 0 0)) (B + (P + 1)) 0 = some (mkM h0 B D hi z (s1)) ∧ (∀ k, k ≠ P → k ≠ P + 1 → s1.1 k = s.1 k) ∧ s1.1 (P + 1) 2 = nI 0 ∧ s1.1 (P + 1) 1 = nI 7 := by
    have e2 : (wr1 s P 0 0).1 (P + 1) 2 = nI c := by rw [wr1_ne (by omega)]; exact h2
    have e1 : (wr1 s P 0 0).1 (P + 1) 1 = nI 7 := by rw [wr1_ne (by omega)]; exact h1
    unfold F_Ledger_dropTo F_Ledger_dropTo_17
    rw [lg_rc (pl_L1 hp), if_pos rfl, if_neg (by decide), lg_2 (pl_L1 hp), Option.bind_some, e2]
    by_cases c0 : c = 0
    · subst c0
      refine ⟨wr1 s P 0 0, by rw [if_pos (by decide)], fun k k1 k2 => wr1_ne k1, e2, e1⟩
    · have hz : ¬ nI c ≤ 0 := nI_ge (a := 0) (by omega) (by omega)
      refine ⟨wr1 (wr1 s P 0 0) (P + 1) 2 0, by rw [if_neg hz, lg_w (pl_L1 hp), Option.bind_some], fun k k1 k2 => by rw [wr1_ne k2, wr1_ne k1], by rw [wr1_at, if_pos rfl]; rfl, by rw [wr1_at, if_neg (by decide)]; exact e1⟩
  obtain ⟨s1, d1, d2, d3, d4⟩ := hd
  obtain ⟨s2, e2, m2, f2⟩ := c_fill (N := N) (h0 := h0) (B := B) (z := z) (s := s1) (x := -1) (by omega) (pl_A3 hp)
  obtain ⟨s3, e3, m3, f3⟩ := c_lclear (N := N) (h0 := h0) (B := B) (z := z) (s := s2) hN (pl_T5 hp)
  refine ⟨s3, ?_, fun k hk => by rw [m3.1 k (by omega), m2.1 k (by omega), d2 k (by omega) (by omega)], by rw [m3.1 _ (by omega), m2.1 _ (by omega)]; exact d3, by rw [m3.1 _ (by omega), m2.1 _ (by omega)]; exact d4, fun j hj => by rw [m3.1 _ (by omega)]; exact f2 j hj, f3⟩
  unfold F_Plan_clearText
  rw [pl_rc hp, if_pos rfl, pl_w0 hp, Option.bind_some, pl_1 hp, Option.bind_some]
  dsimp only
  rw [d1, Option.bind_some, pl_2 hp, Option.bind_some]
  dsimp only
  rw [e2, Option.bind_some, pl_4 hp, Option.bind_some]
  dsimp only
  rw [e3, Option.bind_some]
theorem aB_CP {v : Nat} (h1 : s.1 P 0 = nI v) (h2 : s.1 (P + 1) 2 = nI 0) (h3 : s.1 (P + 1) 1 = nI 7) (h4 : ∀ j, j < 8 → s.1 (P + 3) j = -1) : CPc s P (aB v) := by
  have n1 : q_nc (aB v) = 0 := show (if 0 = 0 ∧ 1 = 0 then v else 0) = 0 from if_neg (by decide)
  have n0 : q_nb (aB v) = v := show (if 0 = 0 ∧ 0 = 0 then v else 0) = v from if_pos ⟨rfl, rfl⟩
  refine ⟨by rw [h1, n0], by rw [h2, n1], h3, fun x hx => by omega, fun x hx => ?_⟩
  rw [h4 x hx, n1]
  show -1 = cd 0
  rw [cd_0]
/-- a TEXT is read into the draft -/
theorem c_readInto (hN : 1000 ≤ N) (hf : FX D hi) (hp : PL D hi P) (hP : P = 58 ∨ 130 ≤ P) (hPb : P + 30 < 2 ^ 31) (hx : CTX s b L) {c : Nat} (hc : c ≤ 7) (h2 : s.1 (P + 1) 2 = nI c) (h1 : s.1 (P + 1) 1 = nI 7) : ∃ r s', F_Reader_readInto N (mkM h0 B D hi z s) (B + 3) (B + P) = some (r, (mkM h0 B D hi z (s'))) ∧ (∀ k, k ≠ 3 → ¬ (P ≤ k ∧ k < P + 15) → s'.1 k = s.1 k) ∧ (∃ c, c ≤ 7 ∧ s'.1 (P + 1) 2 = nI c) ∧ s'.1 (P + 1) 1 = nI 7 ∧ ((∃ f, rdT b = .inl f ∧ f ≤ L ∧ r = nI f) ∨ ∃ A', rdT b = .inr A' ∧ r = -1 ∧ DA A' ∧ SET s' P A') := by
  have hT := hx.1
  have hL := hT.1
  obtain ⟨sb, eb, kb, b2, b1, b3, bl⟩ := c_clear (N := N) (h0 := h0) (B := B) (z := z) (s := s) hN hp hc h2 h1
  generalize hsc : wrI (wrI sb 3 1 0) 3 2 (-1) = sc
  have kc : ∀ k, k ≠ 3 → sc.1 k = sb.1 k := fun k hk => by rw [← hsc, wrI_1, wr1_ne hk, wrI_1, wr1_ne hk]
  have c33 : sc.1 3 2 = -1 := by rw [← hsc, wrI_1, wr1_at, if_pos rfl]
  have c32 : sc.1 3 1 = nI 0 := by rw [← hsc, wrI_1, wr1_at, if_neg (by decide), wrI_1, wr1_at, if_pos rfl]; rfl
  have kA : ∀ k, k ≠ 3 → ¬ (P ≤ k ∧ k < P + 15) → sc.1 k = s.1 k := fun k k1 k2 => by rw [kc k k1, kb k (by omega)]
  have hxc : CTX sc b L := by
    unfold CTX at hx ⊢
    rw [kA 1 (by omega) (by omega), kA 2 (by omega) (by omega)]
    exact hx
  have cc2 : sc.1 (P + 1) 2 = nI 0 := by rw [kc _ (by omega)]; exact b2
  have cc1 : sc.1 (P + 1) 1 = nI 7 := by rw [kc _ (by omega)]; exact b1
  have cc3 : ∀ j, j < 8 → sc.1 (P + 3) j = -1 := fun j hj => by rw [kc _ (by omega)]; exact b3 j hj
  have ccl : CL sc (P + 5) (fun _ => 0, fun _ => 0) := by
    unfold CL at bl ⊢
    rw [kc _ (by omega), kc _ (by omega), kc _ (by omega), kc _ (by omega)]
    exact bl
  have pre : F_Reader_readInto N (mkM h0 B D hi z s) (B + 3) (B + P) = (F_Reader_readBoxes N (mkM h0 B D hi z (sc)) (B + 3) (B + P)).bind fun S7 => F_Reader_readInto_27 N (B + 3) (B + P) N 0 S7 := by
    unfold F_Reader_readInto
    rw [rcm_3 hf, if_pos rfl, eb, Option.bind_some, wrm_3_1 hf, Option.bind_some, wrm_3_2 hf, Option.bind_some, hsc]
  have hsk := sk_le (i := 0) hT (by omega)
  have hxm := atS_c hxc (i := sk b 0)
  have am : (atS sc (sk b 0)).1 3 2 = -1 := by rw [atS_j (by decide)]; exact c33
  -- up to the first letter
  have pre2 : F_Reader_readBoxes N (mkM h0 B D hi z (sc)) (B + 3) (B + P) = if cd (b (sk b 0)) = 98 then ((F_Reader_number N (mkM h0 B D hi z (atS sc (sk b 0 + 1))) (B + 3) 2 8).bind fun (v10, S9) => (wF S9 (B + P) 4 0 .int (.int v10)).bind fun S11 => some S11) else some (mkM h0 B D hi z (wr1 (atS sc (sk b 0)) 3 2 (nI (sk b 0)))) := by
    unfold F_Reader_readBoxes
    rw [rcm_3 hf, if_pos rfl, F_skip hN hf hxc (by omega) c32, Option.bind_some, rdm_3_0 hf, Option.bind_some]
    dsimp only
    rw [rdm_3_1 hf, Option.bind_some, atS_2, F_byte hf hxm (by omega), Option.bind_some]
    dsimp only
    rw [rdm_3_1 hf, Option.bind_some, atS_2, nI_1, wrm_3_1 hf, Option.bind_some]
    have e1 : wrI (atS sc (sk b 0)) 3 1 (nI (sk b 0 + 1)) = atS sc (sk b 0 + 1) := atS_a
    rw [e1, Option.bind_some, F_fail hf (g_fail_y am), Option.bind_some]
  have zN : ∃ g, N = g + 1 + 1 + 1 := ⟨N - 3, by omega⟩
  obtain ⟨g, hg⟩ := zN
  have loop0 : ∀ S, F_Reader_readInto_27 N (B + 3) (B + P) N 0 S = F_Reader_readInto_27 N (B + 3) (B + P) (g + 1 + 1 + 1) (nI 0) S := fun S => congrFun (congrFun (congrArg (F_Reader_readInto_27 N (B + 3) (B + P)) hg) _) _
  -- the answer when something is wrong
  have fin : ∀ (sw : mst) f, F_Reader_readBoxes N (mkM h0 B D hi z (sc)) (B + 3) (B + P) = some (mkM h0 B D hi z (sw)) → sw.1 3 2 = nI f → f ≤ L → rdT b = .inl f → (∀ k, k ≠ 3 → k ≠ P → sw.1 k = sc.1 k) → ∃ r s', F_Reader_readInto N (mkM h0 B D hi z s) (B + 3) (B + P) = some (r, (mkM h0 B D hi z (s'))) ∧ (∀ k, k ≠ 3 → ¬ (P ≤ k ∧ k < P + 15) → s'.1 k = s.1 k) ∧ (∃ c, c ≤ 7 ∧ s'.1 (P + 1) 2 = nI c) ∧ s'.1 (P + 1) 1 = nI 7 ∧ ((∃ f, rdT b = .inl f ∧ f ≤ L ∧ r = nI f) ∨ ∃ A', rdT b = .inr A' ∧ r = -1 ∧ DA A' ∧ SET s' P A') := by
    intro sw f e1 e2 e3 e4 e5
    refine ⟨nI f, sw, ?_, fun k k1 k2 => by rw [e5 k k1 (by omega), kA k k1 k2], ⟨0, by omega, by rw [e5 _ (by omega) (by omega)]; exact cc2⟩, by rw [e5 _ (by omega) (by omega)]; exact cc1, Or.inl ⟨f, e4, e3, rfl⟩⟩
    rw [pre, e1, Option.bind_some, loop0, c_loopW hf e2 (by omega)]
  by_cases c98 : b (sk b 0) = 99
  · have e98 : cd (b (sk b 0)) = 98 := (cd_c hT (v := 98) (by decide)).mpr c98
    rw [if_pos e98] at pre2
    have hlt : sk b 0 + 1 ≤ L := by
      by_cases c : sk b 0 < L
      · omega
      · have := (hT.2.2 (sk b 0)).mpr (by omega)
        omega
    have hxn := atS_c hxc (i := sk b 0 + 1)
    have an : (atS sc (sk b 0 + 1)).1 3 2 = -1 := by rw [atS_j (by decide)]; exact c33
    have rdt : ∀ f, nmR b (sk b 0 + 1) (fun v => 2 ≤ v ∧ v ≤ 8) = .inl f → rdT b = .inl f := by
      intro f e
      unfold rdT
      rw [if_pos c98, e]
    have two : (2 : Int32) = nI 2 := rfl
    have eig : (8 : Int32) = nI 8 := rfl
    rcases nmR_cases b (sk b 0 + 1) (fun v => 2 ≤ v ∧ v ≤ 8) with ⟨f, e1, e2⟩ | ⟨v, j, e1, hr⟩
    · obtain ⟨x1, s1, g1, g2, g3, g4⟩ := c_num_f (N := N) (p0 := 2) (p1 := 8) hN hxn hlt atS_2 an e1
      have hfL := nmb_f hT hlt e1
      refine fin (wr1 s1 P 0 x1) f ?_ (by rw [wr1_ne (by omega)]; exact g2) hfL (rdt f e2) (fun k k1 k2 => by rw [wr1_ne k2, g4 k k1, atS_k k1])
      rw [pre2, F_num hf g1, Option.bind_some]
      dsimp only
      rw [pl_w0 hp, Option.bind_some]
    · have hb := nmb_b hT hlt e1
      obtain ⟨cg, cb⟩ := c_num_g (N := N) (p0 := 2) (p1 := 8) hN hxn hlt atS_2 an e1
      by_cases ok1 : 2 ≤ v ∧ v ≤ 8
      · have g1 := cg (by rw [two]; exact nI_nlt ok1.1 (by omega)) (by rw [eig]; exact nI_le ok1.2 (by decide))
        rw [atS_a] at g1
        generalize hsd : wr1 (atS sc j) P 0 (nI v) = sd
        have kd : ∀ k, k ≠ 3 → k ≠ P → sd.1 k = sc.1 k := fun k k1 k2 => by rw [← hsd, wr1_ne k2, atS_k k1]
        have d3 : ∀ m, sd.1 3 m = (atS sc j).1 3 m := fun m => by rw [← hsd, wr1_ne (by omega)]
        have eB : F_Reader_readBoxes N (mkM h0 B D hi z (sc)) (B + 3) (B + P) = some (mkM h0 B D hi z (sd)) := by
          rw [pre2, F_num hf g1, Option.bind_some]
          dsimp only
          rw [pl_w0 hp, Option.bind_some, hsd]
        have hxd : CTX sd b L := by
          have := hxc
          unfold CTX at this ⊢
          rw [kd 1 (by omega) (by omega), kd 2 (by omega) (by omega)]
          exact this
        have d33 : sd.1 3 2 = -1 := by rw [d3, atS_j (by decide)]; exact c33
        have d32 : sd.1 3 1 = nI j := by rw [d3, atS_2]
        have hcd : CPc sd P (aB v) := aB_CP (by rw [← hsd, wr1_at, if_pos rfl]) (by rw [kd _ (by omega) (by omega)]; exact cc2) (by rw [kd _ (by omega) (by omega)]; exact cc1) (fun j hj => by rw [kd _ (by omega) (by omega)]; exact cc3 j hj)
        have hqz : q_nq (aB v) = 0 := show (if 0 = 0 ∧ 2 = 0 then v else 0) = 0 from if_neg (by decide)
        have hld : CL sd (P + 5) (q_ly (aB v) (q_nq (aB v))) := by
          rw [hqz]
          have := ccl
          show CL sd (P + 5) (fun _ => 0, fun _ => 0)
          unfold CL at this ⊢
          rw [kd _ (by omega) (by omega), kd _ (by omega) (by omega), kd _ (by omega) (by omega), kd _ (by omega) (by omega)]
          exact this
        by_cases dd : dg (b j)
        · obtain ⟨s3, e3, k3, k31⟩ := c_loopP (N := N) (h0 := h0) (B := B) (z := z) (g := g + 1) (t := 0) (P := P) hN hf hxd d33 d32 hb.2.2 dd (by omega)
          refine ⟨nI j, s3, ?_, fun k k1 k2 => by rw [k3 k k1, kd k k1 (by omega), kA k k1 k2], ⟨0, by omega, by rw [k3 _ (by omega), kd _ (by omega) (by omega)]; exact cc2⟩, by rw [k3 _ (by omega), kd _ (by omega) (by omega)]; exact cc1, Or.inl ⟨j, rdt j (nmR_3 e1 ok1 dd), hb.2.2, rfl⟩⟩
          rw [pre, eB, Option.bind_some, loop0, e3]
        · have er := nmR_g (ok := fun v => 2 ≤ v ∧ v ≤ 8) e1 ok1 dd
          obtain ⟨r, s3, e3, f3, q3⟩ := c_loop (N := N) (h0 := h0) (B := B) (z := z) hN hf hp hP hPb 301 (aB v) j sd 0 (g + 1 + 1 + 1) (aB_DA ok1) hxd ⟨d33, d32, hcd, hld⟩ hb.2.2 (by omega) (by omega) (by omega) (by omega)
          refine ⟨r, s3, ?_, fun k k1 k2 => by rw [f3.1 k k1 k2, kd k k1 (by omega), kA k k1 k2], f3.2.2.1, f3.2.2.2, ?_⟩
          · rw [pre, eB, Option.bind_some, loop0, e3]
          · have et : rdT b = rdF b 301 (aB v) j := by
              unfold rdT
              rw [if_pos c98, er]
            rw [et]
            exact q3
      · have g1 := cb (by
          by_cases q : v < 2
          · exact Or.inl (by rw [two]; exact nI_lt q (by decide))
          · exact Or.inr (by rw [eig]; exact nI_ge (by omega) (by omega)))
        generalize hs1 : wr1 (atS (atS sc (sk b 0 + 1)) j) 3 2 (nI (j - 1)) = s1 at g1
        have k1 : ∀ k, k ≠ 3 → s1.1 k = sc.1 k := fun k hk => by rw [← hs1, wr1_ne hk, atS_k hk, atS_k hk]
        have k3 : s1.1 3 2 = nI (j - 1) := by rw [← hs1, wr1_at, if_pos rfl]
        refine fin (wr1 s1 P 0 (nI v)) (j - 1) ?_ (by rw [wr1_ne (by omega)]; exact k3) (by omega) (rdt _ (nmR_n e1 ok1)) (fun k q1 q2 => by rw [wr1_ne q2, k1 k q1])
        rw [pre2, F_num hf g1, Option.bind_some]
        dsimp only
        rw [pl_w0 hp, Option.bind_some]
  · have n98 : ¬ cd (b (sk b 0)) = 98 := fun y => c98 ((cd_c hT (v := 98) (by decide)).mp y)
    rw [if_neg n98] at pre2
    refine fin _ (sk b 0) pre2 (by rw [wr1_at, if_pos rfl]) hsk ?_ (fun k k1 _ => by rw [wr1_ne k1, atS_k k1])
    unfold rdT
    rw [if_neg c98]
end RDI
