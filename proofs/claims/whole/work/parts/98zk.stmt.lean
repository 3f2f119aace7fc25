/-! ===== statements of a TEXT ===== -/
def aC (A : AP) (a c k l : Nat) : AP := upF (upF (upF (upF (upF A 0 (updN (A 0) 1 (q_nc A + 1))) 1 (updN (A 1) (q_nc A) a)) 2 (updN (A 2) (q_nc A) c)) 3 (updN (A 3) (q_nc A) k)) 4 (updN (A 4) (q_nc A) l)
def aO (A : AP) (k x y : Nat) : AP := upF (upF (upF (upF A 0 (updN (A 0) 2 (q_nq A + 1))) 5 (updN (A 5) (q_nq A) k)) 6 (updN (A 6) (q_nq A) x)) 7 (updN (A 7) (q_nq A) y)
def aB (v : Nat) : AP := fun f k => if f = 0 ∧ k = 0 then v else 0
noncomputable def m48 (b : Nat → Nat) (i : Nat) : Nat ⊕ (Nat × Nat × Nat) := match nmR b i (fun v => 1 ≤ v ∧ v ≤ 6) with
  | .inl f => .inl f
  | .inr (k, i3) => match nmR b i3 (fun v => 1 ≤ v ∧ v ≤ 99) with
    | .inl f => .inl f
    | .inr (l, i4) => .inr (k, l, i4)
noncomputable def cabA (b : Nat → Nat) (A : AP) (i : Nat) : Nat ⊕ (AP × Nat) := match nmR b i (fun v => v < q_nb A) with
  | .inl f => .inl f
  | .inr (a, i1) => match nmR b i1 (fun v => a < v ∧ v < q_nb A ∧ q_pc A v = 0) with
    | .inl f => .inl f
    | .inr (c, i2) => match m48 b i2 with
      | .inl f => .inl f
      | .inr (k, l, i4) => .inr (aC A a c k l, i4)
noncomputable def joiA (b : Nat → Nat) (A : AP) (i : Nat) : Nat ⊕ (AP × Nat) := match nmR b i (fun v => v < q_nc A) with
  | .inl f => .inl f
  | .inr (x, i1) => match nmR b i1 (fun v => v < q_pr A x) with
    | .inl f => .inl f
    | .inr (p, i2) => match nmR b i2 (fun v => v < q_nc A ∧ q_fr A v = q_tb A x) with
      | .inl f => .inl f
      | .inr (y, i3) => match nmR b i3 (fun v => v < q_pr A y) with
        | .inl f => .inl f
        | .inr (q, i4) => .inr (aO A 0 (8 * x + p) (8 * y + q), i4)
noncomputable def houA (b : Nat → Nat) (A : AP) (i : Nat) : Nat ⊕ (AP × Nat) := match nmR b i (fun v => v < q_nc A) with
  | .inl f => .inl f
  | .inr (x, i1) => match nmR b i1 (fun v => v < q_pr A x) with
    | .inl f => .inl f
    | .inr (p, i2) => match nmR b i2 (fun v => v < 10) with
      | .inl f => .inl f
      | .inr (y, i3) => .inr (aO A 1 (8 * x + p) y, i3)
/-- what a number leaves to be asked -/
theorem nmR_cases (b : Nat → Nat) (i : Nat) (ok : Nat → Prop) : (∃ f, nmb b i = .inl f ∧ nmR b i ok = .inl f) ∨ ∃ v j, nmb b i = .inr (v, j) ∧ ((¬ ok v ∧ nmR b i ok = .inl (j - 1)) ∨ (ok v ∧ dg (b j) ∧ nmR b i ok = .inl j ∧ nmb b j = .inl j) ∨ (ok v ∧ ¬ dg (b j) ∧ nmR b i ok = .inr (v, j))) := by
  cases e : nmb b i with
  | inl f => exact Or.inl ⟨f, rfl, nmR_l e⟩
  | inr p =>
    obtain ⟨v, j⟩ := p
    refine Or.inr ⟨v, j, rfl, ?_⟩
    by_cases c : ok v
    · by_cases d : dg (b j)
      · exact Or.inr (Or.inl ⟨c, d, nmR_3 e c d, nmb_l (fun y => by rw [y] at d; unfold dg at d; omega)⟩)
      · exact Or.inr (Or.inr ⟨c, d, nmR_g e c d⟩)
    · exact Or.inl ⟨c, nmR_n e c⟩
def FR (P : Nat) (s s' : mst) : Prop := (∀ k, k ≠ 3 → ¬ (P ≤ k ∧ k < P + 15) → s'.1 k = s.1 k) ∧ s'.1 3 0 = s.1 3 0 ∧ (∃ c, c ≤ 7 ∧ s'.1 (P + 1) 2 = nI c) ∧ s'.1 (P + 1) 1 = nI 7
def BAD (b : Nat → Nat) (L f : Nat) (s : mst) : Prop := f ≤ L ∧ (s.1 3 2 = nI f ∨ (s.1 3 2 = -1 ∧ s.1 3 1 = nI f ∧ dg (b f)))
def OKS (s : mst) (P : Nat) (A : AP) (j : Nat) : Prop := s.1 3 2 = -1 ∧ s.1 3 1 = nI j ∧ CPc s P A ∧ CL s (P + 5) (q_ly A (q_nq A))
section STM
variable {h0 : Nat → pm_C} {B : Nat} {D : Nat → pd} {hi z : Nat} {s : mst} {N P L i : Nat} {A : AP} {b : Nat → Nat} {p0 p1 p2 p3 x y : Int32}
theorem F_num (hf : FX D hi) {r : Int32 × mst} (e : G_Reader_number N s p0 p1 = some r) : F_Reader_number N (mkM h0 B D hi z s) (B + 3) p0 p1 = some (r.1, (mkM h0 B D hi z (r.2))) := by
  rw [sg_Reader_number hf, e]
  rfl
theorem F_fail {s' : mst} (hf : FX D hi) (e : G_Reader_fail N s x = some s') : F_Reader_fail N (mkM h0 B D hi z s) (B + 3) x = some (mkM h0 B D hi z (s')) := by
  rw [sg_Reader_fail hf, e]
  rfl
theorem d_pairsOf (hp : PL D hi P) (h : CPc s P A) (hc : q_nc A ≤ 7) {x : Nat} (hx : x < q_nc A) : F_Plan_pairsOf N (mkM h0 B D hi z s) (B + P) (nI x) = some (nI (q_pr A x), (mkM h0 B D hi z s)) := by
  unfold F_Plan_pairsOf
  rw [pl_rc hp, if_pos rfl, pl_1 hp]
  dsimp only [Option.bind_some]
  rw [L_2, c_at (pl_L1 hp) h.2.1 (by omega) hx (by omega), (h.2.2.2.1 x hx).2.2.1]
  rfl
theorem d_pairsOf_a (hp : PL D hi P) (h : CPc s P A) (hc : q_nc A ≤ 7) : ∃ v, F_Plan_pairsOf N (mkM h0 B D hi z s) (B + P) x = some (v, (mkM h0 B D hi z s)) := by
  by_cases c : okn (q_nc A) x
  · obtain ⟨j, hj, rfl⟩ := c
    exact ⟨_, d_pairsOf hp h hc hj⟩
  · refine ⟨-1, ?_⟩
    unfold F_Plan_pairsOf
    rw [pl_rc hp, if_pos rfl, pl_1 hp]
    dsimp only [Option.bind_some]
    rw [c_at_f (pl_L1 hp) h.2.1 (by omega) c]
    rfl
theorem d_boxAt (hp : PL D hi P) (h : CPc s P A) (hc : q_nc A ≤ 7) {x e : Nat} (hx : x < q_nc A) (he : e < 2) : F_Plan_boxAt N (mkM h0 B D hi z s) (B + P) (nI x) (nI e) = some (nI (if e = 0 then q_fr A x else q_tb A x), (mkM h0 B D hi z s)) := by
  unfold F_Plan_boxAt F_Plan_boxAt_14_2
  rw [pl_rc hp, if_pos rfl, pl_1 hp]
  dsimp only [Option.bind_some]
  by_cases h0e : e = 0
  · rw [if_pos (by rw [h0e]; rfl), if_pos h0e, L_0, c_at (pl_L1 hp) h.2.1 (by omega) hx (by omega), (h.2.2.2.1 x hx).1]
    rfl
  · rw [if_neg (nI_ne0 (by omega) (by omega)), if_neg h0e, L_1, c_at (pl_L1 hp) h.2.1 (by omega) hx (by omega), (h.2.2.2.1 x hx).2.1]
    rfl
theorem d_hasBox_t (hp : PL D hi P) (h : CPc s P A) (hb : q_nb A ≤ 8) {x : Nat} (hx : x < q_nb A) : F_Plan_hasBox N (mkM h0 B D hi z s) (B + P) (nI x) = some (1, (mkM h0 B D hi z s)) := by
  unfold F_Plan_hasBox F_Plan_hasBox_17
  rw [pl_rc hp, if_pos rfl, if_neg (nI_pos (by omega)), pl_0 hp, Option.bind_some, h.1, if_neg (nI_ge hx (by omega)), if_pos (Or.inr rfl)]
theorem d_hasBox_f (hp : PL D hi P) (h : CPc s P A) (hb : q_nb A ≤ 8) (hx : ¬ okn (q_nb A) x) : F_Plan_hasBox N (mkM h0 B D hi z s) (B + P) x = some (0, (mkM h0 B D hi z s)) := by
  unfold F_Plan_hasBox F_Plan_hasBox_16 F_Plan_hasBox_17
  rw [pl_rc hp, if_pos rfl, pl_0 hp, Option.bind_some, h.1]
  rcases okn_not (show q_nb A < 2 ^ 31 by omega) hx with h2 | h2
  · rw [if_pos h2, if_pos (Or.inl rfl)]
  · by_cases h3 : x < 0
    · rw [if_pos h3, if_pos (Or.inl rfl)]
    · rw [if_neg h3, if_pos h2, if_pos (Or.inl rfl)]
theorem d_cableTo (hp : PL D hi P) (h : CPc s P A) (hb : q_nb A ≤ 8) {x : Nat} (hx : x < q_nb A) : F_Plan_cableTo N (mkM h0 B D hi z s) (B + P) (nI x) = some (cd (q_pc A x), (mkM h0 B D hi z s)) := by
  unfold F_Plan_cableTo F_Plan_cableTo_20
  rw [pl_rc hp, if_pos rfl, d_hasBox_t hp h hb hx]
  dsimp only [Option.bind_some]
  rw [if_neg i10, pl_2 hp]
  dsimp only [Option.bind_some]
  rw [ar_v (pl_A3 hp), vat_nI (by omega) (by decide), h.2.2.2.2 x (by omega)]
  rfl
theorem d_cableTo_a (hp : PL D hi P) (h : CPc s P A) (hb : q_nb A ≤ 8) : ∃ v, F_Plan_cableTo N (mkM h0 B D hi z s) (B + P) x = some (v, (mkM h0 B D hi z s)) := by
  by_cases c : okn (q_nb A) x
  · obtain ⟨j, hj, rfl⟩ := c
    exact ⟨_, d_cableTo hp h hb hj⟩
  · refine ⟨-1, ?_⟩
    unfold F_Plan_cableTo F_Plan_cableTo_20
    rw [pl_rc hp, if_pos rfl, d_hasBox_f hp h hb c]
    dsimp only [Option.bind_some]
    rw [if_pos rfl]
theorem d_meet (hp : PL D hi P) (h : CPc s P A) (hc : q_nc A ≤ 7) (hX : WFx A) (hb : q_nb A ≤ 8) {x y : Nat} (hx : x < q_nc A) (hy : y < q_nc A) : (F_Plan_meet N (mkM h0 B D hi z s) (B + P) (nI x) (nI y) = some (1, (mkM h0 B D hi z s)) ∧ q_fr A y = q_tb A x) ∨ (F_Plan_meet N (mkM h0 B D hi z s) (B + P) (nI x) (nI y) = some (0, (mkM h0 B D hi z s)) ∧ q_fr A y ≠ q_tb A x) := by
  have hxx := hX x hx
  have hyy := hX y hy
  have b1 : F_Plan_boxAt N (mkM h0 B D hi z s) (B + P) (nI x) 1 = some (nI (q_tb A x), (mkM h0 B D hi z s)) := d_boxAt hp h hc hx (e := 1) (by decide)
  have b0 : F_Plan_boxAt N (mkM h0 B D hi z s) (B + P) (nI y) 0 = some (nI (q_fr A y), (mkM h0 B D hi z s)) := d_boxAt hp h hc hy (e := 0) (by decide)
  unfold F_Plan_meet F_Plan_meet_41 F_Plan_meet_42
  rw [pl_rc hp, if_pos rfl, pl_1 hp]
  dsimp only [Option.bind_some]
  rw [c_has_t (pl_L1 hp) h.2.1 (by omega) hx]
  dsimp only [Option.bind_some]
  rw [if_neg i10, pl_1 hp]
  dsimp only [Option.bind_some]
  rw [c_has_t (pl_L1 hp) h.2.1 (by omega) hy]
  dsimp only [Option.bind_some]
  rw [if_neg i10, b1]
  dsimp only [Option.bind_some]
  rw [b0]
  dsimp only [Option.bind_some]
  by_cases d : q_fr A y = q_tb A x
  · exact Or.inl ⟨by rw [d, if_pos rfl, if_pos (Or.inr rfl)], d⟩
  · refine Or.inr ⟨?_, d⟩
    rw [if_neg (fun e => d ((nI_eq (by omega) (by omega)).mp e).symm), if_pos (Or.inl rfl)]
theorem d_meet_a (hp : PL D hi P) (h : CPc s P A) (hc : q_nc A ≤ 7) (hX : WFx A) (hb : q_nb A ≤ 8) : ∃ v, F_Plan_meet N (mkM h0 B D hi z s) (B + P) x y = some (v, (mkM h0 B D hi z s)) := by
  by_cases cx : okn (q_nc A) x
  · obtain ⟨j, hj, rfl⟩ := cx
    by_cases cy : okn (q_nc A) y
    · obtain ⟨k, hk, rfl⟩ := cy
      rcases d_meet (N := N) (h0 := h0) (B := B) (z := z) hp h hc hX hb hj hk with ⟨e, _⟩ | ⟨e, _⟩
      · exact ⟨_, e⟩
      · exact ⟨_, e⟩
    · refine ⟨0, ?_⟩
      unfold F_Plan_meet F_Plan_meet_41 F_Plan_meet_42
      rw [pl_rc hp, if_pos rfl, pl_1 hp]
      dsimp only [Option.bind_some]
      rw [c_has_t (pl_L1 hp) h.2.1 (by omega) hj]
      dsimp only [Option.bind_some]
      rw [if_neg i10, pl_1 hp]
      dsimp only [Option.bind_some]
      rw [c_has_f (pl_L1 hp) h.2.1 (by omega) cy]
      dsimp only [Option.bind_some]
      rw [if_pos rfl, if_pos (Or.inl rfl)]
  · refine ⟨0, ?_⟩
    unfold F_Plan_meet F_Plan_meet_41 F_Plan_meet_42
    rw [pl_rc hp, if_pos rfl, pl_1 hp]
    dsimp only [Option.bind_some]
    rw [c_has_f (pl_L1 hp) h.2.1 (by omega) cx]
    dsimp only [Option.bind_some]
    rw [if_pos rfl, if_pos (Or.inl rfl)]
theorem atS_CPc {j : Nat} (h : CPc s P A) (hP : 4 ≤ P) : CPc (atS s j) P A := CPc_e h (fun k h1 h2 => atS_k (by omega))
/-- once something was wrong, the rest of a CABLE does nothing -/
theorem w_48 (hf : FX D hi) (hw : ¬ s.1 3 2 = -1) : F_Reader_readCable_48 N (B + 3) (B + P) x y (mkM h0 B D hi z s) = some (mkM h0 B D hi z s) := by
  unfold F_Reader_readCable_48 F_Reader_readCable_84
  rw [F_num hf (c_num_w hw), Option.bind_some]
  dsimp only
  rw [F_num hf (c_num_w hw), Option.bind_some]
  dsimp only
  rw [rdm_3_2 hf, Option.bind_some, if_neg hw]
theorem w_38 (hf : FX D hi) (hw : ¬ s.1 3 2 = -1) : F_Reader_readCable_38 N (B + 3) (B + P) x y (mkM h0 B D hi z s) = some (mkM h0 B D hi z s) := by
  unfold F_Reader_readCable_38
  rw [rdm_3_1 hf, Option.bind_some, F_fail hf (g_fail_n hw), Option.bind_some]
  exact w_48 hf hw
/-- the second half of a CABLE -/
theorem d_48 (hN : 1000 ≤ N) (hf : FX D hi) (hp : PL D hi P) (hP : P = 58 ∨ 130 ≤ P) (hx : CTX s b L) (hi2 : i ≤ L) (ha : s.1 3 1 = nI i) (hw : s.1 3 2 = -1) (hc : CPc s P A) (hn : q_nc A < 7) {a c : Nat} (hcb : c < 8) : ∃ s', F_Reader_readCable_48 N (B + 3) (B + P) (nI a) (nI c) (mkM h0 B D hi z s) = some (mkM h0 B D hi z (s')) ∧ FR P s s' ∧ (∀ k, P + 4 ≤ k → s'.1 k = s.1 k) ∧ ((∃ f, BAD b L f s' ∧ m48 b i = (Sum.inl f : Nat ⊕ (Nat × Nat × Nat))) ∨ (∃ k l i4, s'.1 3 2 = -1 ∧ s'.1 3 1 = nI i4 ∧ 1 ≤ k ∧ k ≤ 6 ∧ 1 ≤ l ∧ l ≤ 99 ∧ i + 4 ≤ i4 ∧ i4 ≤ L ∧ s'.1 P = s.1 P ∧ (∀ j, s'.1 (P + 1) j = (ladd s (P + 1) (q_nc A) (nI a) (nI c) (nI k) (nI l) 0).1 (P + 1) j) ∧ (∀ j, s'.1 (P + 1 + 1) j = (ladd s (P + 1) (q_nc A) (nI a) (nI c) (nI k) (nI l) 0).1 (P + 1 + 1) j) ∧ (∀ j, s'.1 (P + 3) j = if j = c then nI (q_nc A) else s.1 (P + 3) j) ∧ m48 b i = (Sum.inr (k, l, i4) : Nat ⊕ (Nat × Nat × Nat)))) := by
  have hL := hx.1.1
  have hfr : ∀ s' : mst, (∀ k, k ≠ 3 → s'.1 k = s.1 k) → s'.1 3 0 = s.1 3 0 → FR P s s' ∧ ∀ k, P + 4 ≤ k → s'.1 k = s.1 k := by
    intro s' h1 h2
    refine ⟨⟨fun k k1 k2 => h1 k k1, h2, ⟨q_nc A, by omega, ?_⟩, ?_⟩, fun k hk => h1 k (by omega)⟩
    · rw [h1 _ (by omega)]; exact hc.2.1
    · rw [h1 _ (by omega)]; exact hc.2.2.1
  -- a fault that the first number or the second shows
  have bad : ∀ (s1 : mst) f, ¬ s1.1 3 2 = -1 → f ≤ L → s1.1 3 2 = nI f → True := fun _ _ _ _ _ => trivial
  rcases nmR_cases b i (fun v => 1 ≤ v ∧ v ≤ 6) with ⟨f, e1, e2⟩ | ⟨v, j, e1, hr⟩
  · obtain ⟨x1, s1, g1, g2, g3, g4⟩ := c_num_f (N := N) (p0 := 1) (p1 := 6) hN hx hi2 ha hw e1
    have hfL := nmb_f hx.1 hi2 e1
    have hw1 : ¬ s1.1 3 2 = -1 := by rw [g2]; exact nI_n1 (by omega)
    refine ⟨s1, ?_, (hfr s1 g4 g3).1, (hfr s1 g4 g3).2, Or.inl ⟨f, ⟨hfL, Or.inl g2⟩, by unfold m48; rw [e2]⟩⟩
    unfold F_Reader_readCable_48 F_Reader_readCable_84
    rw [F_num hf g1, Option.bind_some]
    dsimp only
    rw [F_num hf (c_num_w hw1), Option.bind_some]
    dsimp only
    rw [rdm_3_2 hf, Option.bind_some, if_neg hw1]
  · have hb := nmb_b hx.1 hi2 e1
    obtain ⟨cg, cb⟩ := c_num_g (N := N) (p0 := 1) (p1 := 6) hN hx hi2 ha hw e1
    have one : (1 : Int32) = nI 1 := rfl
    have six : (6 : Int32) = nI 6 := rfl
    by_cases ok1 : 1 ≤ v ∧ v ≤ 6
    · have g1 := cg (by rw [one]; exact nI_nlt ok1.1 (by omega)) (by rw [six]; exact nI_le ok1.2 (by decide))
      have hx1 := atS_c hx (i := j)
      have ha1 : (atS s j).1 3 1 = nI j := atS_2
      have hw1 : (atS s j).1 3 2 = -1 := by rw [atS_j (by decide)]; exact hw
      rcases nmR_cases b j (fun v => 1 ≤ v ∧ v ≤ 99) with ⟨f, e3, e4⟩ | ⟨l, j2, e3, hr2⟩
      · obtain ⟨x1, s1, h1, h2, h3, h4⟩ := c_num_f (N := N) (p0 := 1) (p1 := 99) hN hx1 hb.2.2 ha1 hw1 e3
        have hfL := nmb_f hx.1 hb.2.2 e3
        have hw2 : ¬ s1.1 3 2 = -1 := by rw [h2]; exact nI_n1 (by omega)
        have kk : ∀ k, k ≠ 3 → s1.1 k = s.1 k := fun k hk => by rw [h4 k hk, atS_k hk]
        have k1 : s1.1 3 0 = s.1 3 0 := by rw [h3, atS_j (by decide)]
        refine ⟨s1, ?_, (hfr s1 kk k1).1, (hfr s1 kk k1).2, Or.inl ⟨f, ⟨hfL, Or.inl h2⟩, ?_⟩⟩
        · unfold F_Reader_readCable_48 F_Reader_readCable_84
          rw [F_num hf g1, Option.bind_some]
          dsimp only
          rw [F_num hf h1, Option.bind_some]
          dsimp only
          rw [rdm_3_2 hf, Option.bind_some, if_neg hw2]
        · rcases hr with ⟨q1, q2⟩ | ⟨q1, q2, q3, q4⟩ | ⟨q1, q2, q3⟩
          · exact absurd ok1 q1
          · unfold m48
            rw [q3]
            rw [q4] at e3
            have := Sum.inl.inj e3
            rw [this]
          · unfold m48
            rw [q3]
            dsimp only
            rw [e4]
      · have hnd : ¬ dg (b j) := fun d => by
          have := nmb_l (b := b) (i := j) (fun y => by rw [y] at d; unfold dg at d; omega)
          rw [this] at e3
          cases e3
        have er1 : nmR b i (fun v => 1 ≤ v ∧ v ≤ 6) = .inr (v, j) := nmR_g e1 ok1 hnd
        have hb2 := nmb_b hx.1 hb.2.2 e3
        obtain ⟨cg2, cb2⟩ := c_num_g (N := N) (p0 := 1) (p1 := 99) hN hx1 hb.2.2 ha1 hw1 e3
        have nn : (99 : Int32) = nI 99 := rfl
        by_cases ok2 : 1 ≤ l ∧ l ≤ 99
        · have h1 := cg2 (by rw [one]; exact nI_nlt ok2.1 (by omega)) (by rw [nn]; exact nI_le ok2.2 (by decide))
          rw [atS_a] at h1
          have hc2 : (atS s j2).1 (P + 1) 2 = nI (q_nc A) := by rw [atS_k (by omega)]; exact hc.2.1
          have hm2 : (atS s j2).1 (P + 1) 1 = nI 7 := by rw [atS_k (by omega)]; exact hc.2.2.1
          generalize hs2 : wr1 (ladd (atS s j2) (P + 1) (q_nc A) (nI a) (nI c) (nI v) (nI l) 0) (P + 3) c (nI (q_nc A)) = s2
          have kA : F_Plan_addCable N (mkM h0 B D hi z (atS s j2)) (B + P) (nI a) (nI c) (nI v) (nI l) = some (mkM h0 B D hi z (s2)) := by
            unfold F_Plan_addCable
            rw [pl_rc hp, if_pos rfl, pl_2 hp, Option.bind_some]
            dsimp only
            rw [pl_1 hp, Option.bind_some]
            dsimp only
            rw [c_add (pl_L1 hp) hc2 hm2 hn (by decide), Option.bind_some]
            dsimp only
            rw [ar_s (pl_A3 hp), Option.bind_some, ws_nI hcb (by decide), hs2]
          have o3 : ∀ m, s2.1 3 m = (atS s j2).1 3 m := by
            intro m
            rw [← hs2, wr1_ne (by omega), ladd_ne (by omega) (by omega)]
          have oth : ∀ k, k ≠ 3 → k ≠ P + 1 → k ≠ P + 1 + 1 → k ≠ P + 3 → s2.1 k = s.1 k := by
            intro k k1 k2 k3 k4
            rw [← hs2, wr1_ne k4, ladd_ne k2 k3, atS_k k1]
          have lad : ∀ m, m = P + 1 ∨ m = P + 1 + 1 → ∀ j, (ladd (atS s j2) (P + 1) (q_nc A) (nI a) (nI c) (nI v) (nI l) 0).1 m j = (ladd s (P + 1) (q_nc A) (nI a) (nI c) (nI v) (nI l) 0).1 m j := by
            intro m hm j
            rcases hm with e | e
            · subst e
              by_cases c2 : j = 2
              · subst c2; rw [ladd_2, ladd_2]
              · rw [ladd_L c2, ladd_L c2, atS_k (by omega)]
            · subst e
              rw [ladd_c, ladd_c, atS_k (by omega)]
          have hFR : FR P s s2 := by
            refine ⟨fun k k1 k2 => oth k k1 (by omega) (by omega) (by omega), by rw [o3, atS_j (by decide)], ⟨q_nc A + 1, by omega, ?_⟩, ?_⟩
            · rw [← hs2, wr1_ne (by omega), ladd_2]
            · rw [← hs2, wr1_ne (by omega), ladd_L (by decide)]; exact hm2
          have hcls : F_Reader_readCable_48 N (B + 3) (B + P) (nI a) (nI c) (mkM h0 B D hi z s) = some (mkM h0 B D hi z (s2)) := by
            unfold F_Reader_readCable_48 F_Reader_readCable_84
            rw [F_num hf g1, Option.bind_some]
            dsimp only
            rw [F_num hf h1, Option.bind_some]
            dsimp only
            rw [rdm_3_2 hf, Option.bind_some, if_pos (by rw [atS_j (by decide)]; exact hw), kA, Option.bind_some]
          refine ⟨s2, hcls, hFR, fun k hk => oth k (by omega) (by omega) (by omega) (by omega), ?_⟩
          by_cases dl : dg (b j2)
          · refine Or.inl ⟨j2, ⟨hb2.2.2, Or.inr ⟨by rw [o3, atS_j (by decide)]; exact hw, by rw [o3, atS_2], dl⟩⟩, ?_⟩
            unfold m48
            rw [er1]
            dsimp only
            rw [nmR_3 e3 ok2 dl]
          · refine Or.inr ⟨v, l, j2, by rw [o3, atS_j (by decide)]; exact hw, by rw [o3, atS_2], ok1.1, ok1.2, ok2.1, ok2.2, by omega, hb2.2.2, oth P (by omega) (by omega) (by omega) (by omega), fun j => ?_, fun j => ?_, fun j => ?_, ?_⟩
            · rw [← hs2, wr1_ne (by omega), lad _ (Or.inl rfl)]
            · rw [← hs2, wr1_ne (by omega), lad _ (Or.inr rfl)]
            · rw [← hs2, wr1_at, ladd_ne (by omega) (by omega), atS_k (by omega)]
            · unfold m48
              rw [er1]
              dsimp only
              rw [nmR_g e3 ok2 dl]
        · have h1 := cb2 (by
            by_cases q : l < 1
            · exact Or.inl (by rw [one]; exact nI_lt q (by decide))
            · exact Or.inr (by rw [nn]; exact nI_ge (by omega) (by omega)))
          generalize hs1 : wr1 (atS (atS s j) j2) 3 2 (nI (j2 - 1)) = s1 at h1
          have kk : ∀ k, k ≠ 3 → s1.1 k = s.1 k := fun k hk => by rw [← hs1, wr1_ne hk, atS_k hk, atS_k hk]
          have k1 : s1.1 3 0 = s.1 3 0 := by rw [← hs1, wr1_at, if_neg (by decide), atS_j (by decide), atS_j (by decide)]
          have k3 : s1.1 3 2 = nI (j2 - 1) := by rw [← hs1, wr1_at, if_pos rfl]
          have hw2 : ¬ s1.1 3 2 = -1 := by rw [k3]; exact nI_n1 (by omega)
          refine ⟨s1, ?_, (hfr s1 kk k1).1, (hfr s1 kk k1).2, Or.inl ⟨j2 - 1, ⟨by omega, Or.inl k3⟩, ?_⟩⟩
          · unfold F_Reader_readCable_48 F_Reader_readCable_84
            rw [F_num hf g1, Option.bind_some]
            dsimp only
            rw [F_num hf h1, Option.bind_some]
            dsimp only
            rw [rdm_3_2 hf, Option.bind_some, if_neg hw2]
          · unfold m48
            rw [er1]
            dsimp only
            rw [nmR_n e3 ok2]
    · have g1 := cb (by
        by_cases q : v < 1
        · exact Or.inl (by rw [one]; exact nI_lt q (by decide))
        · exact Or.inr (by rw [six]; exact nI_ge (by omega) (by omega)))
      generalize hs1 : wr1 (atS s j) 3 2 (nI (j - 1)) = s1 at g1
      have kk : ∀ k, k ≠ 3 → s1.1 k = s.1 k := fun k hk => by rw [← hs1, wr1_ne hk, atS_k hk]
      have k1 : s1.1 3 0 = s.1 3 0 := by rw [← hs1, wr1_at, if_neg (by decide), atS_j (by decide)]
      have k3 : s1.1 3 2 = nI (j - 1) := by rw [← hs1, wr1_at, if_pos rfl]
      have hw2 : ¬ s1.1 3 2 = -1 := by rw [k3]; exact nI_n1 (by omega)
      refine ⟨s1, ?_, (hfr s1 kk k1).1, (hfr s1 kk k1).2, Or.inl ⟨j - 1, ⟨by omega, Or.inl k3⟩, ?_⟩⟩
      · unfold F_Reader_readCable_48 F_Reader_readCable_84
        rw [F_num hf g1, Option.bind_some]
        dsimp only
        rw [F_num hf (c_num_w hw2), Option.bind_some]
        dsimp only
        rw [rdm_3_2 hf, Option.bind_some, if_neg hw2]
      · unfold m48
        rw [nmR_n e1 ok1]
end STM
