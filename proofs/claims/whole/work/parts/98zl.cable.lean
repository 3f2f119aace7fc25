/-! ===== a CABLE of a TEXT ===== -/
/-- a PLAN of which nothing but a TEXT was told -/
def DA (A : AP) : Prop := WF A ∧ q_ns A = 0 ∧ q_nt A = 0 ∧ q_ne A = 0 ∧ q_nr A = 0 ∧ (∀ h, q_wt A h = 0) ∧ q_nc A ≤ q_cp (fun x => q_pc A x ≠ 0) 8
section CBL
variable {A : AP} {a c k l v : Nat}
theorem DA_lt (h : DA A) (h1 : a < c) (h2 : c < q_nb A) (h3 : q_pc A c = 0) : q_nc A < 7 := by
  obtain ⟨hA, _, _, _, _, _, hq⟩ := h
  have hb := hA.1.2.1
  have e1 := q_cp_d (P := fun x => q_pc A x ≠ 0) (Q := fun x => x ≠ 0) (k := c) (fun i hi => by have := q_pc_s hA hi; omega) (by omega) (fun y => y h3) 8 (by omega)
  have e2 := q_cp_d (P := fun x => x ≠ 0) (Q := fun _ => True) (k := 0) (fun _ _ => trivial) trivial (fun y => y rfl) 8 (by omega)
  have e3 := q_cp_le (P := fun _ => True) 8
  omega
theorem q_ff_c {f g : Nat → Nat} {x : Nat} : ∀ n, (∀ i, i < n → f i = g i) → q_ff f x n = q_ff g x n := by
  intro n
  induction n with
  | zero => intro _; rfl
  | succ n ih =>
    intro h
    unfold q_ff
    rw [ih (fun i hi => h i (by omega)), h n (by omega)]
theorem aC_ag : AG A (aC A a c k l) [1, 2, 3, 4] [1] := by
  refine ⟨fun f f0 hf => ?_, fun i hi => ?_⟩
  · unfold aC
    rw [upF_n (fun e => hf (by rw [e]; decide)), upF_n (fun e => hf (by rw [e]; decide)), upF_n (fun e => hf (by rw [e]; decide)), upF_n (fun e => hf (by rw [e]; decide)), upF_n f0]
  · unfold aC
    rw [upF_n (by decide), upF_n (by decide), upF_n (by decide), upF_n (by decide), upF_s]
    exact updN_n (fun e => hi (by rw [e]; decide))
theorem aC_nc : q_nc (aC A a c k l) = q_nc A + 1 := by
  show aC A a c k l 0 1 = _
  unfold aC
  rw [upF_n (by decide), upF_n (by decide), upF_n (by decide), upF_n (by decide), upF_s, updN_s]
theorem aC_fr : q_fr (aC A a c k l) = updN (q_fr A) (q_nc A) a := by
  show aC A a c k l 1 = _
  unfold aC
  rw [upF_n (by decide), upF_n (by decide), upF_n (by decide), upF_s]
  rfl
theorem aC_tb : q_tb (aC A a c k l) = updN (q_tb A) (q_nc A) c := by
  show aC A a c k l 2 = _
  unfold aC
  rw [upF_n (by decide), upF_n (by decide), upF_s]
  rfl
theorem aC_pr : q_pr (aC A a c k l) = updN (q_pr A) (q_nc A) k := by
  show aC A a c k l 3 = _
  unfold aC
  rw [upF_n (by decide), upF_s]
  rfl
theorem aC_ln : q_ln (aC A a c k l) = updN (q_ln A) (q_nc A) l := by
  show aC A a c k l 4 = _
  unfold aC
  rw [upF_s]
  rfl
theorem aC_pc (x : Nat) : q_pc (aC A a c k l) x = if q_pc A x = 0 then (if c = x then q_nc A + 1 else 0) else q_pc A x := by
  have e : q_ff (updN (q_tb A) (q_nc A) c) x (q_nc A) = q_ff (q_tb A) x (q_nc A) := q_ff_c _ (fun i hi => updN_n (by omega))
  show q_ff (q_tb (aC A a c k l)) x (q_nc (aC A a c k l)) = _
  rw [aC_tb, aC_nc]
  show (if q_ff (updN (q_tb A) (q_nc A) c) x (q_nc A) = 0 then (if updN (q_tb A) (q_nc A) c (q_nc A) = x then q_nc A + 1 else 0) else q_ff (updN (q_tb A) (q_nc A) c) x (q_nc A)) = _
  rw [e, updN_s]
  rfl
theorem aC_st {s : Nat} (h : q_st A s) : q_st (aC A a c k l) s := by
  unfold q_st at h ⊢
  rw [aC_nc, aC_pr, updN_n (by omega)]
  exact ⟨by omega, h.2⟩
theorem aC_DA (h : DA A) (h1 : a < c) (h2 : c < q_nb A) (h3 : q_pc A c = 0) (hk : 1 ≤ k ∧ k ≤ 6) (hl : 1 ≤ l ∧ l ≤ 99) : DA (aC A a c k l) := by
  have hn := DA_lt h h1 h2 h3
  have g := aC_ag (A := A) (a := a) (c := c) (k := k) (l := l)
  obtain ⟨⟨a1, a2, a3, a4, a5, a6, a7, a8⟩, n1, n2, n3, n4, n5, n6⟩ := h
  refine ⟨⟨?_, ?_, ?_, ?_, ?_, ?_, ?_, ag_WFw g (by decide) a8⟩, by rw [ag_ns g (by decide)]; exact n1, by rw [ag_nt g (by decide)]; exact n2, by rw [ag_ne g (by decide)]; exact n3, by rw [ag_nr g (by decide)]; exact n4, fun h => by rw [ag_wt g (by decide)]; exact n5 h, ?_⟩
  · unfold WFc at a1 ⊢
    rw [ag_nb g (by decide), aC_nc, ag_nq g (by decide), ag_ns g (by decide), ag_nt g (by decide), ag_ne g (by decide), ag_nr g (by decide)]
    omega
  · intro x hx
    rw [aC_nc] at hx
    rw [aC_fr, aC_tb, aC_pr, aC_ln, ag_nb g (by decide)]
    by_cases e : x = q_nc A
    · rw [e, updN_s, updN_s, updN_s, updN_s]
      omega
    · rw [updN_n e, updN_n e, updN_n e, updN_n e]
      exact a2 x (by omega)
  · intro x y hx hy e
    rw [aC_nc] at hx hy
    rw [aC_tb] at e
    have hz := (q_ff_0 (f := q_tb A) (b := c) (q_nc A)).mp h3
    by_cases ex : x = q_nc A
    · by_cases ey : y = q_nc A
      · omega
      · rw [ex, updN_s, updN_n ey] at e
        exact absurd e.symm (hz y (by omega))
    · by_cases ey : y = q_nc A
      · rw [ey, updN_s, updN_n ex] at e
        exact absurd e (hz x (by omega))
      · rw [updN_n ex, updN_n ey] at e
        exact a3 x y (by omega) (by omega) e
  · intro i hi
    rw [ag_nq g (by decide), ag_ns g (by decide)] at hi
    obtain ⟨w1, w2, w3, w4⟩ := a4 i hi
    rw [ag_ok g (by decide), ag_os g (by decide), ag_ow g (by decide)]
    refine ⟨w1, aC_st w2, fun e => ⟨aC_st (w3 e).1, ?_⟩, w4⟩
    have f1 := (w3 e).1.1
    have f2 := w2.1
    rw [aC_fr, aC_tb, updN_n (by omega), updN_n (by omega)]
    exact (w3 e).2
  · intro i hi
    rw [ag_nt g (by decide)] at hi
    omega
  · intro i hi
    rw [ag_ne g (by decide)] at hi
    omega
  · intro i hi
    rw [ag_nr g (by decide)] at hi
    omega
  · rw [aC_nc]
    have e1 := q_cp_d (P := fun x => q_pc A x ≠ 0) (Q := fun x => q_pc (aC A a c k l) x ≠ 0) (k := c) (fun i hi => by rw [aC_pc, if_neg hi]; exact hi) (by rw [aC_pc, if_pos h3, if_pos rfl]; omega) (fun y => y h3) 8 (by have := a1.2.1; omega)
    omega
theorem aC_ly (h : DA A) : q_ly (aC A a c k l) (q_nq (aC A a c k l)) = q_ly A (q_nq A) := by
  have g := aC_ag (A := A) (a := a) (c := c) (k := k) (l := l)
  rw [ag_nq g (by decide)]
  exact ly_c _ (fun i _ => by rw [ag_ok g (by decide), ag_os g (by decide), ag_ow g (by decide)]; exact ⟨rfl, rfl, rfl⟩)
end CBL
section CBM
variable {h0 : Nat → pm_C} {B : Nat} {D : Nat → pd} {hi z : Nat} {s : mst} {N P L i : Nat} {A : AP} {b : Nat → Nat}
/-- what a statement of the TEXT does in the class -/
def STC (b : Nat → Nat) (L P : Nat) (s s' : mst) (i : Nat) (r : Nat ⊕ (AP × Nat)) : Prop := FR P s s' ∧ ((∃ f, r = .inl f ∧ BAD b L f s') ∨ ∃ A' j, r = .inr (A', j) ∧ OKS s' P A' j ∧ i + 6 ≤ j ∧ j ≤ L)
theorem nI_le_m1 {v n : Nat} (hv : v < 2 ^ 31) (hn : n < 2 ^ 31) : nI v ≤ nI n - 1 ↔ v < n := by
  constructor
  · intro h
    by_cases c : v < n
    · exact c
    · exact absurd ((nI_m1_lt hn).mpr (nI_le (by omega) hv)) (fun y => absurd h (i32_nle.mpr y))
  · intro h
    by_cases c : nI v ≤ nI n - 1
    · exact c
    · have := (nI_m1_lt hn).mp (i32_nle.mp c)
      exact absurd this (nI_ge h hn)
theorem c_readCable (hN : 1000 ≤ N) (hf : FX D hi) (hp : PL D hi P) (hP : P = 58 ∨ 130 ≤ P) (hA : DA A) (hx : CTX s b L) (hi2 : i ≤ L) (hs : OKS s P A i) : ∃ s', F_Reader_readCable N (mkM h0 B D hi z s) (B + 3) (B + P) = some (mkM h0 B D hi z (s')) ∧ STC b L P s s' i (cabA b A i) := by
  obtain ⟨hw, ha, hc, hl⟩ := hs
  have hL := hx.1.1
  have hWc := hA.1.1
  unfold WFc at hWc
  have zr : (0 : Int32) = nI 0 := rfl
  -- the rest, once something is wrong
  have rest2 : ∀ (s1 : mst) (x : Int32), ¬ s1.1 3 2 = -1 → CPc s1 P A → (oI (mkM h0 B D hi z s1) (B + P) 4 0).bind (fun v4 => (F_Reader_number N (mkM h0 B D hi z s1) (B + 3) 0 (v4 - 1)).bind fun (v6, S5) => if v6 ≤ x then F_Reader_readCable_38 N (B + 3) (B + P) x v6 S5 else ((F_Plan_cableTo N S5 (B + P) v6).bind fun (v17, S16) => if v17 = (-1) then F_Reader_readCable_48 N (B + 3) (B + P) x v6 S16 else F_Reader_readCable_38 N (B + 3) (B + P) x v6 S16)) = some (mkM h0 B D hi z s1) := by
    intro s1 x w1 c1
    rw [pl_0 hp, Option.bind_some, F_num hf (c_num_w w1), Option.bind_some]
    dsimp only
    obtain ⟨v, e⟩ := d_cableTo_a (N := N) (h0 := h0) (B := B) (z := z) (x := -1) hp c1 (by omega)
    rw [e, Option.bind_some]
    dsimp only
    rw [w_38 hf w1, w_48 hf w1, ite_self, ite_self]
  have mk : ∀ (s1 : mst) f, (∀ k, k ≠ 3 → s1.1 k = s.1 k) → s1.1 3 0 = s.1 3 0 → s1.1 3 2 = nI f → f ≤ L → cabA b A i = .inl f → STC b L P s s1 i (cabA b A i) := by
    intro s1 f h1 h2 h3 h4 h5
    refine ⟨⟨fun k k1 k2 => h1 k k1, h2, ⟨q_nc A, by omega, ?_⟩, ?_⟩, Or.inl ⟨f, h5, h4, Or.inl h3⟩⟩
    · rw [h1 _ (by omega)]; exact hc.2.1
    · rw [h1 _ (by omega)]; exact hc.2.2.1
  have cpk : ∀ s1 : mst, (∀ k, k ≠ 3 → s1.1 k = s.1 k) → CPc s1 P A := fun s1 h1 => CPc_e hc (fun k k1 k2 => h1 k (by omega))
  rcases nmR_cases b i (fun v => v < q_nb A) with ⟨f, e1, e2⟩ | ⟨a, j, e1, hr⟩
  · obtain ⟨x1, s1, g1, g2, g3, g4⟩ := c_num_f (N := N) (p0 := 0) (p1 := nI (q_nb A) - 1) hN hx hi2 ha hw e1
    have hfL := nmb_f hx.1 hi2 e1
    have w1 : ¬ s1.1 3 2 = -1 := by rw [g2]; exact nI_n1 (by omega)
    refine ⟨s1, ?_, mk s1 f g4 g3 g2 hfL (by unfold cabA; rw [e2])⟩
    unfold F_Reader_readCable
    rw [rcm_3 hf, if_pos rfl, pl_0 hp, Option.bind_some, hc.1, F_num hf g1, Option.bind_some]
    dsimp only
    exact rest2 s1 x1 w1 (cpk s1 g4)
  · have hb := nmb_b hx.1 hi2 e1
    obtain ⟨cg, cb⟩ := c_num_g (N := N) (p0 := 0) (p1 := nI (q_nb A) - 1) hN hx hi2 ha hw e1
    by_cases ok1 : a < q_nb A
    · have g1 := cg (by rw [zr]; exact nI_nlt (by omega) (by omega)) ((nI_le_m1 (by omega) (by omega)).mpr ok1)
      have hx1 := atS_c hx (i := j)
      have ha1 : (atS s j).1 3 1 = nI j := atS_2
      have hw1 : (atS s j).1 3 2 = -1 := by rw [atS_j (by decide)]; exact hw
      have hc1 : CPc (atS s j) P A := atS_CPc hc (by omega)
      have pre : F_Reader_readCable N (mkM h0 B D hi z s) (B + 3) (B + P) = (F_Reader_number N (mkM h0 B D hi z (atS s j)) (B + 3) 0 (nI (q_nb A) - 1)).bind fun (v6, S5) => if v6 ≤ nI a then F_Reader_readCable_38 N (B + 3) (B + P) (nI a) v6 S5 else ((F_Plan_cableTo N S5 (B + P) v6).bind fun (v17, S16) => if v17 = (-1) then F_Reader_readCable_48 N (B + 3) (B + P) (nI a) v6 S16 else F_Reader_readCable_38 N (B + 3) (B + P) (nI a) v6 S16) := by
        unfold F_Reader_readCable
        rw [rcm_3 hf, if_pos rfl, pl_0 hp, Option.bind_some, hc.1, F_num hf g1, Option.bind_some]
        dsimp only
        rw [pl_0 hp, Option.bind_some, hc1.1]
      rcases nmR_cases b j (fun v => a < v ∧ v < q_nb A ∧ q_pc A v = 0) with ⟨f, e3, e4⟩ | ⟨c, j2, e3, hr2⟩
      · obtain ⟨x1, s1, g5, g2, g3, g4⟩ := c_num_f (N := N) (p0 := 0) (p1 := nI (q_nb A) - 1) hN hx1 hb.2.2 ha1 hw1 e3
        have hfL := nmb_f hx.1 hb.2.2 e3
        have w1 : ¬ s1.1 3 2 = -1 := by rw [g2]; exact nI_n1 (by omega)
        have kk : ∀ k, k ≠ 3 → s1.1 k = s.1 k := fun k hk => by rw [g4 k hk, atS_k hk]
        have k1 : s1.1 3 0 = s.1 3 0 := by rw [g3, atS_j (by decide)]
        refine ⟨s1, ?_, mk s1 f kk k1 g2 hfL ?_⟩
        · rw [pre, F_num hf g5, Option.bind_some]
          dsimp only
          obtain ⟨v, e⟩ := d_cableTo_a (N := N) (h0 := h0) (B := B) (z := z) (x := x1) hp (cpk s1 kk) (by omega)
          rw [e, Option.bind_some]
          dsimp only
          rw [w_38 hf w1, w_48 hf w1, ite_self, ite_self]
        · unfold cabA
          rcases hr with ⟨q1, q2⟩ | ⟨q1, q2, q3, q4⟩ | ⟨q1, q2, q3⟩
          · exact absurd ok1 q1
          · rw [q3]
            rw [q4] at e3
            have := Sum.inl.inj e3
            rw [this]
          · rw [q3]
            dsimp only
            rw [e4]
      · have hnd : ¬ dg (b j) := fun d => by
          have := nmb_l (b := b) (i := j) (fun y => by rw [y] at d; unfold dg at d; omega)
          rw [this] at e3
          cases e3
        have er1 : nmR b i (fun v => v < q_nb A) = .inr (a, j) := nmR_g e1 ok1 hnd
        have hb2 := nmb_b hx.1 hb.2.2 e3
        obtain ⟨cg2, cb2⟩ := c_num_g (N := N) (p0 := 0) (p1 := nI (q_nb A) - 1) hN hx1 hb.2.2 ha1 hw1 e3
        have jm : nI j2 - 1 = nI (j2 - 1) := by
          have := nI_pred (j2 - 1)
          rw [show j2 - 1 + 1 = j2 by omega] at this
          exact this
        -- a fault at the second number's last byte
        generalize hsw : wr1 (atS s j2) 3 2 (nI (j2 - 1)) = sw
        have kw : ∀ k, k ≠ 3 → sw.1 k = s.1 k := fun k hk => by rw [← hsw, wr1_ne hk, atS_k hk]
        have kw1 : sw.1 3 0 = s.1 3 0 := by rw [← hsw, wr1_at, if_neg (by decide), atS_j (by decide)]
        have kw3 : sw.1 3 2 = nI (j2 - 1) := by rw [← hsw, wr1_at, if_pos rfl]
        have ww : ¬ sw.1 3 2 = -1 := by rw [kw3]; exact nI_n1 (by omega)
        have abad : ¬ (a < c ∧ c < q_nb A ∧ q_pc A c = 0) → cabA b A i = .inl (j2 - 1) := by
          intro hno
          unfold cabA
          rw [er1]
          dsimp only
          rw [nmR_n e3 hno]
        have f38 : ∀ v : Int32, F_Reader_readCable_38 N (B + 3) (B + P) (nI a) v (mkM h0 B D hi z (atS s j2)) = some (mkM h0 B D hi z (sw)) := by
          intro v
          unfold F_Reader_readCable_38
          rw [rdm_3_1 hf, Option.bind_some, atS_2, jm, F_fail hf (g_fail_y (by rw [atS_j (by decide)]; exact hw)), Option.bind_some, hsw]
          exact w_48 hf ww
        by_cases okb : c < q_nb A
        · have g5 := cg2 (by rw [zr]; exact nI_nlt (by omega) (by omega)) ((nI_le_m1 (by omega) (by omega)).mpr okb)
          rw [atS_a] at g5
          by_cases oka : a < c
          · have hc2 : CPc (atS s j2) P A := atS_CPc hc (by omega)
            by_cases okf : q_pc A c = 0
            · -- the second half
              have hn := DA_lt hA oka okb okf
              obtain ⟨s', t1, t2, t3, t4⟩ := d_48 (N := N) (h0 := h0) (B := B) (z := z) (a := a) (c := c) hN hf hp hP (atS_c hx (i := j2)) hb2.2.2 atS_2 (by rw [atS_j (by decide)]; exact hw) hc2 hn (by omega)
              have tFR : FR P s s' := ⟨fun k k1 k2 => by rw [t2.1 k k1 k2, atS_k k1], by rw [t2.2.1, atS_j (by decide)], t2.2.2⟩
              refine ⟨s', ?_, tFR, ?_⟩
              · rw [pre, F_num hf g5, Option.bind_some]
                dsimp only
                rw [if_neg (nI_ge oka (by omega)), d_cableTo hp hc2 (by omega) okb, okf, cd_0, Option.bind_some]
                dsimp only
                rw [if_pos rfl]
                exact t1
              · by_cases dd : dg (b j2)
                · -- a third digit
                  left
                  have e5 := nmb_l (b := b) (i := j2) (fun y => by rw [y] at dd; unfold dg at dd; omega)
                  have e6 := nmR_l (ok := fun v => 1 ≤ v ∧ v ≤ 6) e5
                  have m6 : m48 b j2 = .inl j2 := by unfold m48; rw [e6]
                  refine ⟨j2, ?_, ?_⟩
                  · unfold cabA
                    rw [er1]
                    dsimp only
                    rw [nmR_3 e3 ⟨oka, okb, okf⟩ dd]
                  · rcases t4 with ⟨f, u1, u2⟩ | ⟨k, l, i4, _, _, _, _, _, _, _, _, _, _, _, _, u2⟩
                    · rw [m6] at u2
                      have := Sum.inl.inj u2
                      rw [this]
                      exact u1
                    · rw [m6] at u2; cases u2
                · have er2 := nmR_g (ok := fun v => a < v ∧ v < q_nb A ∧ q_pc A v = 0) e3 ⟨oka, okb, okf⟩ dd
                  rcases t4 with ⟨f, u1, u2⟩ | ⟨k, l, i4, u1, u2, u3, u4, u5, u6, u7, u8, u9, v1, v2, v3, v4⟩
                  · left
                    refine ⟨f, ?_, u1⟩
                    unfold cabA
                    rw [er1]
                    dsimp only
                    rw [er2]
                    dsimp only
                    rw [u2]
                  · right
                    refine ⟨aC A a c k l, i4, ?_, ⟨u1, u2, ?_, ?_⟩, by omega, u8⟩
                    · unfold cabA
                      rw [er1]
                      dsimp only
                      rw [er2]
                      dsimp only
                      rw [v4]
                    · have g := aC_ag (A := A) (a := a) (c := c) (k := k) (l := l)
                      refine ⟨?_, ?_, ?_, fun x hx => ?_, fun x hx => ?_⟩
                      · rw [u9, ag_nb g (by decide)]; exact hc2.1
                      · rw [v1, ladd_2, aC_nc]
                      · rw [v1, ladd_L (by decide)]; exact hc2.2.2.1
                      · rw [aC_nc] at hx
                        rw [v2, v2, v2, v2, ladd_0, ladd_1, ladd_22, ladd_3, aC_fr, aC_tb, aC_pr, aC_ln]
                        by_cases e : x = q_nc A
                        · rw [if_pos e, if_pos e, if_pos e, if_pos e, e, updN_s, updN_s, updN_s, updN_s]
                          exact ⟨rfl, rfl, rfl, rfl⟩
                        · rw [if_neg e, if_neg e, if_neg e, if_neg e, updN_n e, updN_n e, updN_n e, updN_n e]
                          exact hc2.2.2.2.1 x (by omega)
                      · rw [v3]
                        show _ = cd (q_pc (aC A a c k l) x)
                        rw [aC_pc]
                        by_cases e : x = c
                        · rw [if_pos e, e, if_pos okf, if_pos rfl, cd_s]
                        · rw [if_neg e, hc2.2.2.2.2 x hx]
                          show cd (q_pc A x) = _
                          by_cases e2 : q_pc A x = 0
                          · rw [if_pos e2, if_neg (fun y => e y.symm), e2]
                          · rw [if_neg e2]
                    · rw [aC_ly hA]
                      unfold CL at hl ⊢
                      rw [t3 _ (by omega), t3 _ (by omega), t3 _ (by omega), t3 _ (by omega), atS_k (by omega), atS_k (by omega), atS_k (by omega), atS_k (by omega)]
                      exact hl
            · refine ⟨sw, ?_, mk sw (j2 - 1) kw kw1 kw3 (by omega) (abad (fun y => okf y.2.2))⟩
              rw [pre, F_num hf g5, Option.bind_some]
              dsimp only
              have hpcl : q_pc A c ≤ q_nc A := q_ff_lt _
              rw [if_neg (nI_ge oka (by omega)), d_cableTo hp hc2 (by omega) okb, Option.bind_some]
              dsimp only
              rw [if_neg (fun y => okf ((cd_n1 (by omega)).mp y))]
              exact f38 _
          · refine ⟨sw, ?_, mk sw (j2 - 1) kw kw1 kw3 (by omega) (abad (fun y => oka y.1))⟩
            rw [pre, F_num hf g5, Option.bind_some]
            dsimp only
            rw [if_pos (nI_le (by omega) (by omega))]
            exact f38 _
        · have g5 := cb2 (Or.inr (fun y => okb ((nI_le_m1 (by omega) (by omega)).mp y)))
          rw [atS_a, hsw] at g5
          refine ⟨sw, ?_, mk sw (j2 - 1) kw kw1 kw3 (by omega) (abad (fun y => okb y.2.1))⟩
          rw [pre, F_num hf g5, Option.bind_some]
          dsimp only
          obtain ⟨v, e⟩ := d_cableTo_a (N := N) (h0 := h0) (B := B) (z := z) (x := nI c) hp (cpk sw kw) (by omega)
          rw [e, Option.bind_some]
          dsimp only
          rw [w_38 hf ww, w_48 hf ww, ite_self, ite_self]
    · have g1 := cb (Or.inr (fun y => ok1 ((nI_le_m1 (by omega) (by omega)).mp y)))
      generalize hs1 : wr1 (atS s j) 3 2 (nI (j - 1)) = s1 at g1
      have kk : ∀ k, k ≠ 3 → s1.1 k = s.1 k := fun k hk => by rw [← hs1, wr1_ne hk, atS_k hk]
      have k1 : s1.1 3 0 = s.1 3 0 := by rw [← hs1, wr1_at, if_neg (by decide), atS_j (by decide)]
      have k3 : s1.1 3 2 = nI (j - 1) := by rw [← hs1, wr1_at, if_pos rfl]
      have w1 : ¬ s1.1 3 2 = -1 := by rw [k3]; exact nI_n1 (by omega)
      refine ⟨s1, ?_, mk s1 (j - 1) kk k1 k3 (by omega) (by unfold cabA; rw [nmR_n e1 ok1])⟩
      unfold F_Reader_readCable
      rw [rcm_3 hf, if_pos rfl, pl_0 hp, Option.bind_some, hc.1, F_num hf g1, Option.bind_some]
      dsimp only
      exact rest2 s1 (nI a) w1 (cpk s1 kk)
end CBM
