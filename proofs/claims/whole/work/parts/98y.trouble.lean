/-! ===== trouble ===== -/
def TW (A : AP) (p2 p3 p4 : Int32) : Prop := ∃ x p q, x < q_nc A ∧ p < q_pr A x ∧ q < q_pr A x ∧ p ≠ q ∧ p2 = nI x ∧ p3 = nI p ∧ p4 = nI q
def WI (A : AP) (p2 p3 p5 : Int32) : Prop := ∃ x p d, x < q_nc A ∧ p < q_pr A x ∧ d ≤ q_ln A x ∧ p2 = nI x ∧ p3 = nI p ∧ p5 = nI d
def TRB (A : AP) (p1 p2 p3 p4 p5 : Int32) : Prop := (p1 = 0 ∧ TW A p2 p3 p4) ∨ (p1 = 1 ∧ WI A p2 p3 p5) ∨ (p1 = 2 ∧ TW A p2 p3 p4 ∧ WI A p2 p3 p5) ∨ (p1 = 3 ∧ okn (q_ns A) p2)
def TRn (A : AP) (p1 p2 p3 p4 p5 : Int32) (k x p q d : Nat) : Prop := p1 = nI k ∧ k ≤ 3 ∧ p2 = nI x ∧ (k = 3 → x < q_ns A) ∧ (k < 3 → x < q_nc A ∧ p < q_pr A x ∧ p3 = nI p) ∧ (k = 0 ∨ k = 2 → q < q_pr A x ∧ q ≠ p ∧ p4 = nI q) ∧ (k = 1 ∨ k = 2 → d ≤ q_ln A x ∧ p5 = nI d)
section TRS
variable {h0 : Nat → pm_C} {B : Nat} {D : Nat → pd} {hi z : Nat} {s : mst} {N np : Nat} {As : Nat → AP} {Ps ow : Nat → Nat} {P L : Nat} {bt : Nat → Nat} {A : AP} {p1 p2 p3 p4 p5 : Int32}
theorem TRB_n (hA : WF A) (h : TRB A p1 p2 p3 p4 p5) : ∃ k x p q d, TRn A p1 p2 p3 p4 p5 k x p q d := by
  have hc := hA.1
  unfold WFc at hc
  rcases h with ⟨e, x, p, q, h1, h2, h3, h4, h5, h6, h7⟩ | ⟨e, x, p, d, h1, h2, h3, h5, h6, h7⟩ | ⟨e, ⟨x, p, q, h1, h2, h3, h4, h5, h6, h7⟩, ⟨x', p', d, g1, g2, g3, g4, g5, g6⟩⟩ | ⟨e, x, h1, h2⟩
  · exact ⟨0, x, p, q, 0, e, by omega, h5, fun y => by omega, fun _ => ⟨h1, h2, h6⟩, fun _ => ⟨h3, fun y => h4 y.symm, h7⟩, fun y => by omega⟩
  · exact ⟨1, x, p, 0, d, e, by omega, h5, fun y => by omega, fun _ => ⟨h1, h2, h6⟩, fun y => by omega, fun _ => ⟨h3, h7⟩⟩
  · have ex : x' = x := by
      have := g4.symm.trans h5
      exact (nI_eq (by omega) (by omega)).mp this
    subst ex
    exact ⟨2, x', p, q, d, e, by omega, h5, fun y => by omega, fun _ => ⟨h1, h2, h6⟩, fun _ => ⟨h3, fun y => h4 y.symm, h7⟩, fun _ => ⟨g3, g6⟩⟩
  · exact ⟨3, x, 0, 0, 0, e, by omega, h2, fun _ => h1, fun y => by omega, fun y => by omega, fun y => by omega⟩
theorem c_two (hp : PL D hi P) (hcp : CP s P A) (hA : WF A) : ∃ v : Int32, ((v = 1 ∧ TW A p2 p3 p4) ∨ (v = 0 ∧ ¬ TW A p2 p3 p4)) ∧ F_Plan_canHaveTrouble N (mkM h0 B D hi z s) (B + P) p1 p2 p3 p4 p5 = F_Plan_canHaveTrouble_30 N (B + P) p1 p2 p3 p5 v (mkM h0 B D hi z s) := by
  have hc := hA.1
  unfold WFc at hc
  unfold F_Plan_canHaveTrouble F_Plan_canHaveTrouble_29
  rw [pl_rc hp, if_pos rfl]
  by_cases c : ∃ x p, x < q_nc A ∧ p < q_pr A x ∧ p2 = nI x ∧ p3 = nI p
  · obtain ⟨x, p, hx, hpp, rfl, rfl⟩ := c
    have hxx := hA.2.1 x hx
    rw [c_hasPair_t hp hcp hA hx hpp]
    dsimp only [Option.bind_some]
    rw [if_neg i10]
    by_cases c2 : ∃ x' q, x' < q_nc A ∧ q < q_pr A x' ∧ nI x = nI x' ∧ p4 = nI q
    · obtain ⟨x', q, hx', hq, ex, rfl⟩ := c2
      have exx : x = x' := (nI_eq (by omega) (by omega)).mp ex
      subst exx
      rw [c_hasPair_t hp hcp hA hx hq]
      dsimp only [Option.bind_some]
      rw [if_neg i10]
      by_cases c3 : p = q
      · rw [if_pos (by rw [c3])]
        refine ⟨0, Or.inr ⟨rfl, ?_⟩, rfl⟩
        intro ⟨x2, p', q', y1, y2, y3, y4, y5, y6, y7⟩
        have e2 : x = x2 := (nI_eq (by omega) (by omega)).mp y5
        subst e2
        have e3 : p = p' := (nI_eq (by omega) (by omega)).mp y6
        have e4 : q = q' := (nI_eq (by omega) (by omega)).mp y7
        omega
      · rw [if_neg (fun y => c3 ((nI_eq (by omega) (by omega)).mp y))]
        exact ⟨1, Or.inl ⟨rfl, x, p, q, hx, hpp, hq, c3, rfl, rfl, rfl⟩, rfl⟩
    · rw [c_hasPair_f hp hcp hA c2]
      dsimp only [Option.bind_some]
      rw [if_pos rfl]
      exact ⟨0, Or.inr ⟨rfl, fun ⟨x2, p', q', y1, y2, y3, y4, y5, y6, y7⟩ => c2 ⟨x2, q', y1, y3, y5, y7⟩⟩, rfl⟩
  · rw [c_hasPair_f hp hcp hA c]
    dsimp only [Option.bind_some]
    rw [if_pos rfl]
    exact ⟨0, Or.inr ⟨rfl, fun ⟨x2, p', q', y1, y2, y3, y4, y5, y6, y7⟩ => c ⟨x2, p', y1, y2, y5, y6⟩⟩, rfl⟩
theorem c_wi {tw : Int32} (hp : PL D hi P) (hcp : CP s P A) (hA : WF A) : ∃ v : Int32, ((v = 1 ∧ WI A p2 p3 p5) ∨ (v = 0 ∧ ¬ WI A p2 p3 p5)) ∧ F_Plan_canHaveTrouble_30 N (B + P) p1 p2 p3 p5 tw (mkM h0 B D hi z s) = F_Plan_canHaveTrouble_61 N (B + P) p1 p2 tw v (mkM h0 B D hi z s) := by
  have hc := hA.1
  unfold WFc at hc
  unfold F_Plan_canHaveTrouble_30 F_Plan_canHaveTrouble_60
  by_cases c : ∃ x p, x < q_nc A ∧ p < q_pr A x ∧ p2 = nI x ∧ p3 = nI p
  · obtain ⟨x, p, hx, hpp, rfl, rfl⟩ := c
    have hxx := hA.2.1 x hx
    rw [c_hasPair_t hp hcp hA hx hpp]
    dsimp only [Option.bind_some]
    rw [if_neg i10, c_lengthOf hp hcp hA hx]
    dsimp only [Option.bind_some]
    have nw : ¬ okn (q_ln A x + 1) p5 → ¬ WI A (nI x) (nI p) p5 := by
      intro hno ⟨x2, p', d, y1, y2, y3, y4, y5, y6⟩
      have e2 : x = x2 := (nI_eq (by omega) (by have := hA.2.1 x2 y1; omega)).mp y4
      subst e2
      exact hno ⟨d, by omega, y6⟩
    by_cases c2 : okn (q_ln A x + 1) p5
    · obtain ⟨d, hd, rfl⟩ := c2
      rw [if_neg (nI_pos (by omega)), if_neg (nI_nlt (by omega) (by omega))]
      exact ⟨1, Or.inl ⟨rfl, x, p, d, hx, hpp, by omega, rfl, rfl, rfl⟩, rfl⟩
    · have hno := nw c2
      rcases okn_not (show q_ln A x + 1 < 2 ^ 31 by omega) c2 with d | d
      · rw [if_pos d]
        exact ⟨0, Or.inr ⟨rfl, hno⟩, rfl⟩
      · have d1 := (nI_m1_lt (show q_ln A x + 1 < 2 ^ 31 by omega)).mpr d
        rw [nI_pred] at d1
        rw [if_pos d1, ite_self]
        exact ⟨0, Or.inr ⟨rfl, hno⟩, rfl⟩
  · rw [c_hasPair_f hp hcp hA c]
    dsimp only [Option.bind_some]
    rw [if_pos rfl]
    exact ⟨0, Or.inr ⟨rfl, fun ⟨x2, p', d, y1, y2, y3, y5, y6, y7⟩ => c ⟨x2, p', y1, y2, y5, y6⟩⟩, rfl⟩
theorem c_can (hp : PL D hi P) (hcp : CP s P A) (hA : WF A) : (F_Plan_canHaveTrouble N (mkM h0 B D hi z s) (B + P) p1 p2 p3 p4 p5 = some (1, (mkM h0 B D hi z s)) ∧ TRB A p1 p2 p3 p4 p5) ∨ (F_Plan_canHaveTrouble N (mkM h0 B D hi z s) (B + P) p1 p2 p3 p4 p5 = some (0, (mkM h0 B D hi z s)) ∧ ¬ TRB A p1 p2 p3 p4 p5) := by
  have hc := hA.1
  unfold WFc at hc
  obtain ⟨v, hv, e1⟩ := c_two (N := N) (h0 := h0) (B := B) (z := z) (p1 := p1) (p2 := p2) (p3 := p3) (p4 := p4) (p5 := p5) hp hcp hA
  obtain ⟨u, hu, e2⟩ := c_wi (N := N) (h0 := h0) (B := B) (z := z) (p1 := p1) (p2 := p2) (p3 := p3) (p5 := p5) (tw := v) hp hcp hA
  rw [e1, e2]
  unfold F_Plan_canHaveTrouble_61 F_Plan_canHaveTrouble_116 F_Plan_canHaveTrouble_117 TRB
  by_cases d0 : p1 = 0
  · have n1 : ¬ p1 = 1 := by rw [d0]; decide
    have n2 : ¬ p1 = 2 := by rw [d0]; decide
    have n3 : ¬ p1 = 3 := by rw [d0]; decide
    rw [if_pos d0]
    rcases hv with ⟨rfl, y⟩ | ⟨rfl, y⟩
    · exact Or.inl ⟨by rw [if_pos (Or.inr rfl)], Or.inl ⟨d0, y⟩⟩
    · refine Or.inr ⟨by rw [if_pos (Or.inl rfl)], ?_⟩
      rintro (⟨_, a⟩ | ⟨a, _⟩ | ⟨a, _⟩ | ⟨a, _⟩)
      · exact y a
      · exact n1 a
      · exact n2 a
      · exact n3 a
  · rw [if_neg d0]
    by_cases d1 : p1 = 1
    · have n2 : ¬ p1 = 2 := by rw [d1]; decide
      have n3 : ¬ p1 = 3 := by rw [d1]; decide
      rw [if_pos d1]
      rcases hu with ⟨rfl, y⟩ | ⟨rfl, y⟩
      · exact Or.inl ⟨by rw [if_pos (Or.inr rfl)], Or.inr (Or.inl ⟨d1, y⟩)⟩
      · refine Or.inr ⟨by rw [if_pos (Or.inl rfl)], ?_⟩
        rintro (⟨a, _⟩ | ⟨_, a⟩ | ⟨a, _⟩ | ⟨a, _⟩)
        · exact d0 a
        · exact y a
        · exact n2 a
        · exact n3 a
    · rw [if_neg d1]
      by_cases d2 : p1 = 2
      · have n3 : ¬ p1 = 3 := by rw [d2]; decide
        rw [if_pos d2]
        rcases hv with ⟨rfl, y⟩ | ⟨rfl, y⟩
        · rw [if_neg i10]
          rcases hu with ⟨rfl, y'⟩ | ⟨rfl, y'⟩
          · exact Or.inl ⟨by rw [if_neg i10, if_pos (Or.inr rfl)], Or.inr (Or.inr (Or.inl ⟨d2, y, y'⟩))⟩
          · refine Or.inr ⟨by rw [if_pos rfl, if_pos (Or.inl rfl)], ?_⟩
            rintro (⟨a, _⟩ | ⟨a, _⟩ | ⟨_, _, a⟩ | ⟨a, _⟩)
            · exact d0 a
            · exact d1 a
            · exact y' a
            · exact n3 a
        · rw [if_pos rfl]
          refine Or.inr ⟨by rw [if_pos (Or.inl rfl)], ?_⟩
          rintro (⟨a, _⟩ | ⟨a, _⟩ | ⟨_, a, _⟩ | ⟨a, _⟩)
          · exact d0 a
          · exact d1 a
          · exact y a
          · exact n3 a
      · rw [if_neg d2]
        by_cases d3 : p1 = 3
        · rw [if_pos d3, pl_6 hp]
          dsimp only [Option.bind_some]
          by_cases o : okn (q_ns A) p2
          · obtain ⟨j, hj, rfl⟩ := o
            rw [c_has_t (pl_L15 hp) hcp.2.2.1.1 (by omega) hj]
            dsimp only [Option.bind_some]
            exact Or.inl ⟨by rw [if_pos (Or.inr rfl)], Or.inr (Or.inr (Or.inr ⟨d3, j, hj, rfl⟩))⟩
          · rw [c_has_f (pl_L15 hp) hcp.2.2.1.1 (by omega) o]
            dsimp only [Option.bind_some]
            refine Or.inr ⟨by rw [if_pos (Or.inl rfl)], ?_⟩
            rintro (⟨a, _⟩ | ⟨a, _⟩ | ⟨a, _⟩ | ⟨_, a⟩)
            · exact d0 a
            · exact d1 a
            · exact d2 a
            · exact o a
        · rw [if_neg d3]
          refine Or.inr ⟨rfl, ?_⟩
          rintro (⟨a, _⟩ | ⟨a, _⟩ | ⟨a, _⟩ | ⟨a, _⟩)
          · exact d0 a
          · exact d1 a
          · exact d2 a
          · exact d3 a
/-- the reference asks the same -/
theorem r_90 {t x p : Nat} (h : RPs s np As) (ht : t < np) (hx : x < q_nc (As t)) (hp : p < q_pr (As t) x) (hk : p1 = 1 ∨ p1 = 2) : (G_M_trouble_90 N (nI t) p1 (nI x) (nI p) p4 p5 s = G_M_trouble_119 N (nI t) p1 (nI x) (nI p) p4 p5 1 s ∧ WI (As t) (nI x) (nI p) p5) ∨ (G_M_trouble_90 N (nI t) p1 (nI x) (nI p) p4 p5 s = G_M_trouble_119 N (nI t) p1 (nI x) (nI p) p4 p5 0 s ∧ ¬ WI (As t) (nI x) (nI p) p5) := by
  obtain ⟨hA, hR⟩ := h.2.2 t ht
  have hnp := h.2.1
  have hc := hA.1
  unfold WFc at hc
  have hxx := hA.2.1 x hx
  unfold G_M_trouble_90 G_M_trouble_114 G_M_trouble_118
  rw [if_neg (by rcases hk with e | e <;> (rw [e]; decide)), L_7, nI_mul, nI_add, rdA_nI (by omega) (by decide), Option.bind_some, rp_ln hR hx, r_isIn, Option.bind_some]
  dsimp only
  by_cases c2 : okn (q_ln (As t) x + 1) p5
  · obtain ⟨d, hd, rfl⟩ := c2
    rw [if_neg (nI_pos (by omega)), if_neg (nI_nlt (by omega) (by omega)), if_neg i10]
    exact Or.inl ⟨rfl, x, p, d, hx, hp, by omega, rfl, rfl, rfl⟩
  · have hno : ¬ WI (As t) (nI x) (nI p) p5 := by
      intro ⟨x2, p', d, y1, y2, y3, y4, y5, y6⟩
      have e2 : x = x2 := (nI_eq (by omega) (by have := hA.2.1 x2 y1; omega)).mp y4
      subst e2
      exact c2 ⟨d, by omega, y6⟩
    rcases okn_not (show q_ln (As t) x + 1 < 2 ^ 31 by omega) c2 with d | d
    · rw [if_pos d, if_pos rfl]
      exact Or.inr ⟨rfl, hno⟩
    · have d1 := (nI_m1_lt (show q_ln (As t) x + 1 < 2 ^ 31 by omega)).mpr d
      rw [nI_pred] at d1
      rw [if_pos d1, ite_self, if_pos rfl]
      exact Or.inr ⟨rfl, hno⟩
theorem r_can {t : Nat} (h : RPs s np As) (ht : t < np) (hn : q_nt (As t) ≠ 10) : (G_M_trouble N s (nI t) p1 p2 p3 p4 p5 = G_M_trouble_119 N (nI t) p1 p2 p3 p4 p5 1 (wrI s 85 0 0) ∧ TRB (As t) p1 p2 p3 p4 p5) ∨ (G_M_trouble N s (nI t) p1 p2 p3 p4 p5 = some (-1, wrI s 85 0 0) ∧ ¬ TRB (As t) p1 p2 p3 p4 p5) := by
  have i1 := rps0 h
  obtain ⟨hA, hR⟩ := i1.2.2 t ht
  have hnp := h.2.1
  have hc := hA.1
  unfold WFc at hc
  have z119 : ∀ q2 q3 q4 q5, G_M_trouble_119 N (nI t) p1 q2 q3 q4 q5 0 (wrI s 85 0 0) = some (-1, wrI s 85 0 0) := by
    intro q2 q3 q4 q5
    unfold G_M_trouble_119
    rw [if_pos rfl]
  unfold G_M_trouble G_M_trouble_33 G_M_trouble_118
  rw [r_isPlan_t i1.1 i1.2.1 ht, Option.bind_some]
  dsimp only
  rw [if_neg i10, rdA_nI (by omega) (by decide), Option.bind_some, rp_nt hR, if_neg (show ¬ nI (q_nt (As t)) = 10 from fun e => hn ((nI_eq (b := 10) (by omega) (by decide)).mp e))]
  have e4 : G_M_isIn N (wrI s 85 0 0) p1 0 3 = if p1 = 0 ∨ p1 = 1 ∨ p1 = 2 ∨ p1 = 3 then some (1, wrI s 85 0 0) else some (0, wrI s 85 0 0) := by
    by_cases o : okn 4 p1
    · obtain ⟨j, hj, rfl⟩ := o
      have := r_in_t (N := N) (s := wrI s 85 0 0) hj (show 4 < 2 ^ 31 by decide)
      rw [show nI 4 - 1 = (3 : Int32) from by decide] at this
      rw [this, if_pos]
      rcases (show j = 0 ∨ j = 1 ∨ j = 2 ∨ j = 3 by omega) with e | e | e | e <;> subst e
      · exact Or.inl rfl
      · exact Or.inr (Or.inl rfl)
      · exact Or.inr (Or.inr (Or.inl rfl))
      · exact Or.inr (Or.inr (Or.inr rfl))
    · have := r_in_f (N := N) (s := wrI s 85 0 0) (n := 4) (p0 := p1) (by decide) o
      rw [show nI 4 - 1 = (3 : Int32) from by decide] at this
      rw [this, if_neg]
      rintro (e | e | e | e)
      · exact o ⟨0, by omega, e⟩
      · exact o ⟨1, by omega, e⟩
      · exact o ⟨2, by omega, e⟩
      · exact o ⟨3, by omega, e⟩
  rw [e4]
  by_cases d3 : p1 = 3
  · have n0 : ¬ p1 = 0 := by rw [d3]; decide
    have n1 : ¬ p1 = 1 := by rw [d3]; decide
    have n2 : ¬ p1 = 2 := by rw [d3]; decide
    rw [if_pos (Or.inr (Or.inr (Or.inr d3))), Option.bind_some]
    dsimp only
    rw [if_neg i10, if_pos d3, rdA_nI (by omega) (by decide), Option.bind_some, rp_ns hR]
    by_cases o : okn (q_ns (As t)) p2
    · obtain ⟨j, hj, rfl⟩ := o
      rw [r_in_t hj (by omega), Option.bind_some]
      exact Or.inl ⟨rfl, Or.inr (Or.inr (Or.inr ⟨d3, j, hj, rfl⟩))⟩
    · rw [r_in_f (by omega) o, Option.bind_some]
      dsimp only
      rw [z119]
      refine Or.inr ⟨rfl, ?_⟩
      rintro (⟨a, _⟩ | ⟨a, _⟩ | ⟨a, _⟩ | ⟨_, a⟩)
      · exact n0 a
      · exact n1 a
      · exact n2 a
      · exact o a
  · by_cases dk : p1 = 0 ∨ p1 = 1 ∨ p1 = 2
    · have dk' : p1 = 0 ∨ p1 = 1 ∨ p1 = 2 ∨ p1 = 3 := by
        rcases dk with a | a | a
        · exact Or.inl a
        · exact Or.inr (Or.inl a)
        · exact Or.inr (Or.inr (Or.inl a))
      rw [if_pos dk', Option.bind_some]
      dsimp only
      rw [if_neg i10, if_neg d3]
      by_cases c : ∃ x p, x < q_nc (As t) ∧ p < q_pr (As t) x ∧ p2 = nI x ∧ p3 = nI p
      · obtain ⟨x, p, hx, hp, rfl, rfl⟩ := c
        have hxx := hA.2.1 x hx
        rw [r_isPair_t2 i1 ht hx hp, Option.bind_some]
        dsimp only
        rw [if_neg i10]
        by_cases d1 : p1 = 1
        · have n0 : ¬ p1 = 0 := by rw [d1]; decide
          have n2 : ¬ p1 = 2 := by rw [d1]; decide
          rw [if_pos d1]
          rcases r_90 (N := N) (p4 := p4) (p5 := p5) i1 ht hx hp (Or.inl d1) with ⟨e, w⟩ | ⟨e, w⟩
          · exact Or.inl ⟨e, Or.inr (Or.inl ⟨d1, w⟩)⟩
          · refine Or.inr ⟨e.trans (z119 _ _ _ _), ?_⟩
            rintro (⟨a, _⟩ | ⟨_, a⟩ | ⟨a, _⟩ | ⟨a, _⟩)
            · exact n0 a
            · exact w a
            · exact n2 a
            · exact d3 a
        · rw [if_neg d1]
          have two : TW (As t) (nI x) (nI p) p4 ∨ ¬ TW (As t) (nI x) (nI p) p4 := Classical.em _
          have notTW : ¬ TW (As t) (nI x) (nI p) p4 → ¬ TRB (As t) p1 (nI x) (nI p) p4 p5 := by
            intro y
            rintro (⟨_, a⟩ | ⟨a, _⟩ | ⟨_, a, _⟩ | ⟨a, _⟩)
            · exact y a
            · exact d1 a
            · exact y a
            · exact d3 a
          by_cases c2 : ∃ x' q, x' < q_nc (As t) ∧ q < q_pr (As t) x' ∧ nI x = nI x' ∧ p4 = nI q
          · obtain ⟨x', q, hx', hq, ex, rfl⟩ := c2
            have exx : x = x' := (nI_eq (by omega) (by omega)).mp ex
            subst exx
            rw [r_isPair_t2 i1 ht hx hq, Option.bind_some]
            dsimp only
            rw [if_neg i10]
            by_cases c3 : p = q
            · rw [if_pos (by rw [c3]), z119]
              refine Or.inr ⟨rfl, notTW ?_⟩
              intro ⟨x2, p', q', y1, y2, y3, y4, y5, y6, y7⟩
              have hx2 := hA.2.1 x2 y1
              have e3 : p = p' := (nI_eq (by omega) (by omega)).mp y6
              have e4 : q = q' := (nI_eq (by omega) (by omega)).mp y7
              omega
            · have tw : TW (As t) (nI x) (nI p) (nI q) := ⟨x, p, q, hx, hp, hq, c3, rfl, rfl, rfl⟩
              rw [if_neg (fun y => c3 ((nI_eq (by omega) (by omega)).mp y))]
              by_cases d0 : p1 = 0
              · refine Or.inl ⟨?_, Or.inl ⟨d0, tw⟩⟩
                unfold G_M_trouble_90 G_M_trouble_114
                rw [if_pos d0]
              · have d2 : p1 = 2 := by
                  rcases dk with a | a | a
                  · exact absurd a d0
                  · exact absurd a d1
                  · exact a
                rcases r_90 (N := N) (p4 := nI q) (p5 := p5) i1 ht hx hp (Or.inr d2) with ⟨e, w⟩ | ⟨e, w⟩
                · exact Or.inl ⟨e, Or.inr (Or.inr (Or.inl ⟨d2, tw, w⟩))⟩
                · refine Or.inr ⟨e.trans (z119 _ _ _ _), ?_⟩
                  rintro (⟨a, _⟩ | ⟨a, _⟩ | ⟨_, _, a⟩ | ⟨a, _⟩)
                  · exact d0 a
                  · exact d1 a
                  · exact w a
                  · exact d3 a
          · rw [r_isPair_f2 i1 ht c2, Option.bind_some]
            dsimp only
            rw [if_pos rfl, z119]
            exact Or.inr ⟨rfl, notTW (fun ⟨x2, p', q', y1, y2, y3, y4, y5, y6, y7⟩ => c2 ⟨x2, q', y1, y3, y5, y7⟩)⟩
      · rw [r_isPair_f2 i1 ht c, Option.bind_some]
        dsimp only
        rw [if_pos rfl, z119]
        refine Or.inr ⟨rfl, ?_⟩
        rintro (⟨_, x2, p', q', y1, y2, y3, y4, y5, y6, y7⟩ | ⟨_, x2, p', d, y1, y2, y3, y5, y6, y7⟩ | ⟨_, ⟨x2, p', q', y1, y2, y3, y4, y5, y6, y7⟩, _⟩ | ⟨a, _⟩)
        · exact c ⟨x2, p', y1, y2, y5, y6⟩
        · exact c ⟨x2, p', y1, y2, y5, y6⟩
        · exact c ⟨x2, p', y1, y2, y5, y6⟩
        · exact d3 a
    · have dk' : ¬ (p1 = 0 ∨ p1 = 1 ∨ p1 = 2 ∨ p1 = 3) := by
        rintro (a | a | a | a)
        · exact dk (Or.inl a)
        · exact dk (Or.inr (Or.inl a))
        · exact dk (Or.inr (Or.inr a))
        · exact d3 a
      rw [if_neg dk', Option.bind_some]
      dsimp only
      rw [if_pos rfl]
      refine Or.inr ⟨rfl, ?_⟩
      rintro (⟨a, _⟩ | ⟨a, _⟩ | ⟨a, _⟩ | ⟨a, _⟩)
      · exact dk (Or.inl a)
      · exact dk (Or.inr (Or.inl a))
      · exact dk (Or.inr (Or.inr a))
      · exact d3 a
end TRS
