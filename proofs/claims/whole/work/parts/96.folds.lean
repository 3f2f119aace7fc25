/-! ===== what is drawn from the fitting WORLDS: FITTING, FEWEST, SURE ===== -/
noncomputable def q_fo {α : Type} (A : AP) (g : α → Nat → α) (a0 : α) : Nat → α
  | 0 => a0
  | w + 1 => @ite _ (FT A w) (Classical.propDecidable _) (g (q_fo A g a0 w) w) (q_fo A g a0 w)
theorem q_fo_t {α : Type} {A : AP} {g : α → Nat → α} {a0 : α} {w : Nat} (h : FT A w) : q_fo A g a0 (w + 1) = g (q_fo A g a0 w) w := by
  conv => lhs; unfold q_fo
  rw [if_pos h]
theorem q_fo_f {α : Type} {A : AP} {g : α → Nat → α} {a0 : α} {w : Nat} (h : ¬ FT A w) : q_fo A g a0 (w + 1) = q_fo A g a0 w := by
  conv => lhs; unfold q_fo
  rw [if_neg h]
theorem q_fo_c {α : Type} {A : AP} {g : α → Nat → α} {a0 : α} {m : Nat} : ∀ n, m ≤ n → q_fc A n = q_fc A m → q_fo A g a0 n = q_fo A g a0 m := by
  intro n
  induction n with
  | zero => intro h _; rw [show m = 0 by omega]
  | succ n ih =>
    intro h e
    by_cases hm : m = n + 1
    · rw [hm]
    · have h1 := q_fc_mono (A := A) (show m ≤ n by omega)
      by_cases hn : FT A n
      · rw [q_fc_t hn] at e; omega
      · rw [q_fc_f hn] at e
        rw [q_fo_f hn]
        exact ih (by omega) e
theorem q_fo_s {α : Type} {A : AP} {g : α → Nat → α} {a0 : α} {w n : Nat} (h : FT A w) (e : q_fc A n = q_fc A w + 1) : q_fo A g a0 n = g (q_fo A g a0 w) w := by
  have hn : w + 1 ≤ n := by
    apply Classical.byContradiction
    intro hh
    have := q_fc_mono (A := A) (show n ≤ w by omega)
    omega
  rw [q_fo_c n hn (by rw [q_fc_t h]; exact e), q_fo_t h]
/-- is one WORLD fewer than another? -/
def cbI (x y : Int32) : Prop := (bcI x - bcI y = 0 ∧ ¬ x &&& ((x ^^^ y) &&& (-(x ^^^ y))) = 0) ∨ (¬ bcI x - bcI y = 0 ∧ ¬ 0 ≤ bcI x - bcI y)
noncomputable def gFew (acc : Int32) (w : Nat) : Int32 := @ite _ (acc = -1 ∨ cbI (nI w) acc) (Classical.propDecidable _) (nI w) acc
def gAll (acc : Int32) (w : Nat) : Int32 := acc &&& nI w
def gSom (acc : Int32) (w : Nat) : Int32 := acc ||| nI w
noncomputable def q_few (A : AP) : Int32 := q_fo A gFew (-1) (2 ^ q_nt A)
noncomputable def q_all (A : AP) : Int32 := q_fo A gAll (nI (2 ^ q_nt A) - 1) (2 ^ q_nt A)
noncomputable def q_som (A : AP) : Int32 := q_fo A gSom 0 (2 ^ q_nt A)
/-- the answer of fitting -/
def FIT (A : AP) (p r : Int32) : Prop := (p = -1 ∧ r = nI (q_fc A (2 ^ q_nt A))) ∨ (∃ w, w < 2 ^ q_nt A ∧ FT A w ∧ p = nI (q_fc A w) ∧ r = nI w) ∨ (p ≠ -1 ∧ (∀ w, w < 2 ^ q_nt A → FT A w → p ≠ nI (q_fc A w)) ∧ r = -1)
theorem q_fc_inj {A : AP} {w w' : Nat} (h : FT A w) (h' : FT A w') (e : q_fc A w = q_fc A w') : w = w' := by
  apply Classical.byContradiction
  intro hn
  by_cases hlt : w < w'
  · have := q_fc_lt hlt h; omega
  · have := q_fc_lt (show w' < w by omega) h'; omega
theorem FIT_u {A : AP} (hA : WF A) {p r r' : Int32} (h : FIT A p r) (h' : FIT A p r') : r = r' := by
  have hpw := pow10 hA.1.2.2.2.2.2.1
  have hlt : ∀ w, w < 2 ^ q_nt A → q_fc A w < 2 ^ 31 := fun w hw => by have := q_fc_le (A := A) w; omega
  rcases h with ⟨h1, h2⟩ | ⟨w, h1, h2, h3, h4⟩ | ⟨h1, h2, h3⟩
  · rcases h' with ⟨g1, g2⟩ | ⟨w', g1, g2, g3, g4⟩ | ⟨g1, g2, g3⟩
    · rw [h2, g2]
    · rw [h1] at g3; exact absurd g3 (n1_nI (hlt w' g1))
    · exact absurd h1 g1
  · rcases h' with ⟨g1, g2⟩ | ⟨w', g1, g2, g3, g4⟩ | ⟨g1, g2, g3⟩
    · rw [g1] at h3; exact absurd h3 (n1_nI (hlt w h1))
    · have : q_fc A w = q_fc A w' := (nI_eq (hlt w h1) (hlt w' g1)).mp (h3.symm.trans g3)
      rw [h4, g4, q_fc_inj h2 g2 this]
    · exact absurd h3 (g2 w h1 h2)
  · rcases h' with ⟨g1, g2⟩ | ⟨w', g1, g2, g3, g4⟩ | ⟨g1, g2, g3⟩
    · exact absurd g1 h1
    · exact absurd g3 (h2 w' g1 g2)
    · rw [h3, g3]
section FOR
variable {N t : Nat} {s : mst} {A : AP} {p1 : Int32}
theorem r_worlds (ht : t < 6) (hA : WF A) (hR : RP s t A) : rdA s 100 7 (nI t) = some (nI (q_nt A)) ∧ (1 : Int32) <<< (nI (q_nt A) &&& 31) = nI (2 ^ q_nt A) := by
  refine ⟨?_, sh1 hA.1.2.2.2.2.2.1⟩
  rw [rdA_nI (by omega) (by decide), rp_nt hR]
theorem r_fitting (hN : 2000 ≤ N) (ht : t < 6) (hA : WF A) (hR : RP s t A) : ∃ r s', G_M_fitting_20 N (nI t) p1 N 0 0 s = some (r, s') ∧ Md [106, 107, 108, 109] [29, 30, 31, 34] s s' ∧ FIT A p1 r := by
  have hpw := pow10 hA.1.2.2.2.2.2.1
  refine Exists.elim (lpQ (F := fun f w (q : Int32 × mst) => G_M_fitting_20 N (nI t) p1 f q.1 (nI w) q.2) (n := 2 ^ q_nt A) (I := fun w q => q.1 = nI (q_fc A w) ∧ Md [106, 107, 108, 109] [29, 30, 31, 34] s q.2 ∧ ∀ w', w' < w → FT A w' → p1 ≠ nI (q_fc A w')) (Q := fun r => Md [106, 107, 108, 109] [29, 30, 31, 34] s r.2 ∧ FIT A p1 r.1) ?_ ?_ N 0 (nI 0, s) (Nat.zero_le _) (by omega) ⟨rfl, Md_r, fun w' hw' => by omega⟩) ?_
  · intro f w ⟨q1, q2⟩ hw ⟨i1, i2, i3⟩
    dsimp only at i1 i2
    subst i1
    have R2 : RP q2 t A := RP_md hR i2 (by decide)
    obtain ⟨e1, e2⟩ := r_worlds ht hA R2
    obtain ⟨r, s2, f1, f2, f3⟩ := r_fits (N := N) (w := w) (by omega) ht hA (by omega) R2
    have hst : G_M_fitting_20 N (nI t) p1 (f + 1) (nI (q_fc A w)) (nI w) q2 = if r = 0 then G_M_fitting_20 N (nI t) p1 f (nI (q_fc A w)) (nI (w + 1)) s2 else if nI (q_fc A w) = p1 then some (nI w, s2) else G_M_fitting_20 N (nI t) p1 f (nI (q_fc A w + 1)) (nI (w + 1)) s2 := by
      show GB_M_fitting_20 N (G_M_fitting_20 N (nI t) p1 f) (nI t) p1 (nI (q_fc A w)) (nI w) q2 = _
      unfold GB_M_fitting_20 G_M_fitting_57 G_M_fitting_51
      rw [e1, Option.bind_some, e2, if_neg (nI_ge hw (by omega)), f1, Option.bind_some]
      dsimp only
      rw [nI_1, nI_1]
    rcases f3 with ⟨rfl, hft⟩ | ⟨rfl, hft⟩
    · rw [if_neg i10] at hst
      by_cases c : nI (q_fc A w) = p1
      · right
        rw [if_pos c] at hst
        exact ⟨_, ⟨Md_t i2 f2, Or.inr (Or.inl ⟨w, hw, hft, c.symm, rfl⟩)⟩, hst⟩
      · left
        rw [if_neg c] at hst
        refine ⟨(nI (q_fc A w + 1), s2), ⟨by rw [q_fc_t hft], Md_t i2 f2, fun w' hw' h' => ?_⟩, hst⟩
        by_cases hww : w' = w
        · rw [hww]; exact fun e => c e.symm
        · exact i3 w' (by omega) h'
    · left
      rw [if_pos rfl] at hst
      refine ⟨(nI (q_fc A w), s2), ⟨by rw [q_fc_f hft], Md_t i2 f2, fun w' hw' h' => ?_⟩, hst⟩
      by_cases hww : w' = w
      · rw [hww] at h'; exact absurd h' hft
      · exact i3 w' (by omega) h'
  · intro f ⟨q1, q2⟩ ⟨i1, i2, i3⟩
    dsimp only at i1 i2
    subst i1
    have R2 : RP q2 t A := RP_md hR i2 (by decide)
    obtain ⟨e1, e2⟩ := r_worlds ht hA R2
    have hst : G_M_fitting_20 N (nI t) p1 (f + 1) (nI (q_fc A (2 ^ q_nt A))) (nI (2 ^ q_nt A)) q2 = if p1 = -1 then some (nI (q_fc A (2 ^ q_nt A)), q2) else some (-1, q2) := by
      show GB_M_fitting_20 N (G_M_fitting_20 N (nI t) p1 f) (nI t) p1 (nI (q_fc A (2 ^ q_nt A))) (nI (2 ^ q_nt A)) q2 = _
      unfold GB_M_fitting_20 G_M_fitting_63 G_M_fitting_73
      rw [e1, Option.bind_some, e2, if_pos (nI_le (Nat.le_refl _) (by omega))]
    by_cases c : p1 = -1
    · exact ⟨_, ⟨i2, Or.inl ⟨c, rfl⟩⟩, hst.trans (if_pos c)⟩
    · exact ⟨_, ⟨i2, Or.inr (Or.inr ⟨c, i3, rfl⟩)⟩, hst.trans (if_neg c)⟩
  · intro r ⟨⟨h1, h2⟩, e⟩
    exact ⟨r.1, r.2, e, h1, h2⟩
theorem i32_and_assoc (x y w : Int32) : x &&& y &&& w = x &&& (y &&& w) := by
  apply i32_ext
  rw [Int32.toBitVec_and, Int32.toBitVec_and, Int32.toBitVec_and, Int32.toBitVec_and, BitVec.and_assoc]
theorem gFew_cases {acc : Int32} {w : Nat} : (gFew acc w = nI w ∧ (acc = -1 ∨ cbI (nI w) acc)) ∨ (gFew acc w = acc ∧ ¬ (acc = -1 ∨ cbI (nI w) acc)) := by
  unfold gFew
  by_cases h : acc = -1 ∨ cbI (nI w) acc
  · rw [if_pos h]; exact Or.inl ⟨rfl, h⟩
  · rw [if_neg h]; exact Or.inr ⟨rfl, h⟩
theorem r_fewest (hN : 2000 ≤ N) (ht : t < 6) (hA : WF A) (hR : RP s t A) : ∃ s', G_M_fewest_19 N (nI t) N (-1) 0 s = some (q_few A, s') ∧ Md [106, 107, 108, 109] [29, 30, 31, 34] s s' := by
  have hpw := pow10 hA.1.2.2.2.2.2.1
  refine Exists.elim (lpE (F := fun f w (q : Int32 × mst) => G_M_fewest_19 N (nI t) f q.1 (nI w) q.2) (n := 2 ^ q_nt A) (I := fun w q => q.1 = q_fo A gFew (-1) w ∧ Md [106, 107, 108, 109] [29, 30, 31, 34] s q.2) ?_ N 0 (-1, s) (Nat.zero_le _) (by omega) ⟨rfl, Md_r⟩) ?_
  · intro f w ⟨q1, q2⟩ hw ⟨i1, i2⟩
    dsimp only at i1 i2
    have R2 : RP q2 t A := RP_md hR i2 (by decide)
    obtain ⟨e1, e2⟩ := r_worlds ht hA R2
    obtain ⟨r, s2, f1, f2, f3⟩ := r_fits (N := N) (w := w) (by omega) ht hA (by omega) R2
    have h74 : G_M_fewest_74 N (G_M_fewest_19 N (nI t) f) (nI t) q1 (nI w) q2 = if r = 0 then G_M_fewest_19 N (nI t) f q1 (nI (w + 1)) s2 else G_M_fewest_19 N (nI t) f (nI w) (nI (w + 1)) s2 := by
      unfold G_M_fewest_74 G_M_fewest_85
      rw [f1, Option.bind_some]
      dsimp only
      rw [nI_1]
    have hst : ((q1 = -1 ∨ cbI (nI w) q1) ∧ G_M_fewest_19 N (nI t) (f + 1) q1 (nI w) q2 = G_M_fewest_74 N (G_M_fewest_19 N (nI t) f) (nI t) q1 (nI w) q2) ∨ (¬ (q1 = -1 ∨ cbI (nI w) q1) ∧ G_M_fewest_19 N (nI t) (f + 1) q1 (nI w) q2 = G_M_fewest_19 N (nI t) f q1 (nI (w + 1)) q2) := by
      have hun : G_M_fewest_19 N (nI t) (f + 1) q1 (nI w) q2 = if q1 = -1 then G_M_fewest_49 N (G_M_fewest_19 N (nI t) f) (nI t) q1 (nI w) (-1) q2 else G_M_fewest_49 N (G_M_fewest_19 N (nI t) f) (nI t) q1 (nI w) (bcI (nI w) - bcI q1) q2 := by
        show GB_M_fewest_19 N (G_M_fewest_19 N (nI t) f) (nI t) q1 (nI w) q2 = _
        unfold GB_M_fewest_19
        rw [e1, Option.bind_some, e2, if_neg (nI_ge hw (by omega)), bcI_g, Option.bind_some]
        dsimp only
        rw [bcI_g, Option.bind_some]
      rw [hun]
      by_cases c0 : q1 = -1
      · left
        refine ⟨Or.inl c0, ?_⟩
        rw [if_pos c0]
        unfold G_M_fewest_49
        rw [if_pos m1_lt]
      · rw [if_neg c0]
        unfold G_M_fewest_49 G_M_fewest_85
        generalize hd : bcI (nI w) - bcI q1 = d
        have hcb : cbI (nI w) q1 ↔ (d = 0 ∧ ¬ nI w &&& ((nI w ^^^ q1) &&& (-(nI w ^^^ q1))) = 0) ∨ (¬ d = 0 ∧ ¬ 0 ≤ d) := by unfold cbI; rw [hd]
        rw [i32_and_assoc, nI_1]
        by_cases c1 : d < 0
        · left
          refine ⟨Or.inr (hcb.mpr (Or.inr ⟨fun e => by rw [e] at c1; exact absurd c1 (by decide), fun e => ?_⟩)), by rw [if_pos c1]⟩
          rw [i_lt] at c1
          rw [i_le] at e
          omega
        · rw [if_neg c1]
          by_cases c2 : d = 0
          · rw [if_pos c2]
            by_cases c3 : nI w &&& ((nI w ^^^ q1) &&& (-(nI w ^^^ q1))) = 0
            · right
              refine ⟨fun h => ?_, by rw [if_pos c3]⟩
              rcases h with h | h
              · exact c0 h
              · rcases hcb.mp h with h | h
                · exact h.2 c3
                · exact h.1 c2
            · left
              exact ⟨Or.inr (hcb.mpr (Or.inl ⟨c2, c3⟩)), by rw [if_neg c3]⟩
          · right
            refine ⟨fun h => ?_, by rw [if_neg c2]⟩
            rcases h with h | h
            · exact c0 h
            · rcases hcb.mp h with h | h
              · exact c2 h.1
              · refine h.2 ?_
                rw [i_le]
                rw [i_lt] at c1
                omega
    rcases hst with ⟨hc, hst⟩ | ⟨hc, hst⟩
    · rw [h74] at hst
      rcases f3 with ⟨rfl, hft⟩ | ⟨rfl, hft⟩
      · rw [if_neg i10] at hst
        refine ⟨(nI w, s2), ⟨?_, Md_t i2 f2⟩, hst⟩
        rw [q_fo_t hft, ← i1]
        rcases gFew_cases (acc := q1) (w := w) with h | h
        · exact h.1.symm
        · exact absurd hc h.2
      · rw [if_pos rfl] at hst
        exact ⟨(q1, s2), ⟨by rw [q_fo_f hft]; exact i1, Md_t i2 f2⟩, hst⟩
    · refine ⟨(q1, q2), ⟨?_, i2⟩, hst⟩
      by_cases hft : FT A w
      · rw [q_fo_t hft, ← i1]
        rcases gFew_cases (acc := q1) (w := w) with h | h
        · exact absurd h.2 hc
        · exact h.1.symm
      · rw [q_fo_f hft]; exact i1
  · intro f ⟨⟨q1, q2⟩, ⟨i1, i2⟩, ee⟩
    dsimp only at i1 i2 ee
    subst i1
    have R2 : RP q2 t A := RP_md hR i2 (by decide)
    obtain ⟨e1, e2⟩ := r_worlds ht hA R2
    refine ⟨q2, Eq.trans ee ?_, i2⟩
    show GB_M_fewest_19 N (G_M_fewest_19 N (nI t) f) (nI t) _ (nI (2 ^ q_nt A)) q2 = _
    unfold GB_M_fewest_19 G_M_fewest_91
    rw [e1, Option.bind_some, e2, if_pos (nI_le (Nat.le_refl _) (by omega))]
    rfl
theorem r_sure (hN : 2000 ≤ N) (ht : t < 6) (hA : WF A) (hR : RP s t A) {e : Nat} (he : e < 2) : ∃ s', G_M_sure_44 N (nI t) (nI e) N 0 (nI (2 ^ q_nt A) - 1) 0 0 s = some (if q_fc A (2 ^ q_nt A) = 0 then -1 else if e = 0 then q_all A else q_som A, s') ∧ Md [106, 107, 108, 109] [29, 30, 31, 34] s s' := by
  have hpw := pow10 hA.1.2.2.2.2.2.1
  refine Exists.elim (lpE (F := fun f w (q : Int32 × Int32 × Int32 × mst) => G_M_sure_44 N (nI t) (nI e) f q.1 q.2.1 q.2.2.1 (nI w) q.2.2.2) (n := 2 ^ q_nt A) (I := fun w q => q.1 = (if q_fc A w = 0 then nI 0 else nI 1) ∧ q.2.1 = q_fo A gAll (nI (2 ^ q_nt A) - 1) w ∧ q.2.2.1 = q_fo A gSom 0 w ∧ Md [106, 107, 108, 109] [29, 30, 31, 34] s q.2.2.2) ?_ N 0 (nI 0, nI (2 ^ q_nt A) - 1, 0, s) (Nat.zero_le _) (by omega) ⟨rfl, rfl, rfl, Md_r⟩) ?_
  · intro f w ⟨q0, q1, q3, q2⟩ hw ⟨i0, i1, i3, i2⟩
    dsimp only at i0 i1 i2 i3
    have R2 : RP q2 t A := RP_md hR i2 (by decide)
    obtain ⟨e1, e2⟩ := r_worlds ht hA R2
    obtain ⟨r, s2, f1, f2, f3⟩ := r_fits (N := N) (w := w) (by omega) ht hA (by omega) R2
    have hst : G_M_sure_44 N (nI t) (nI e) (f + 1) q0 q1 q3 (nI w) q2 = if r = 0 then G_M_sure_44 N (nI t) (nI e) f q0 q1 q3 (nI (w + 1)) s2 else G_M_sure_44 N (nI t) (nI e) f (nI 1) (q1 &&& nI w) (q3 ||| nI w) (nI (w + 1)) s2 := by
      show GB_M_sure_44 N (G_M_sure_44 N (nI t) (nI e) f) (nI t) (nI e) q0 q1 q3 (nI w) q2 = _
      unfold GB_M_sure_44 G_M_sure_86
      rw [e1, Option.bind_some, e2, if_neg (nI_ge hw (by omega)), f1, Option.bind_some]
      dsimp only
      rw [nI_1, L_1]
    rcases f3 with ⟨rfl, hft⟩ | ⟨rfl, hft⟩
    · rw [if_neg i10] at hst
      refine ⟨(nI 1, q1 &&& nI w, q3 ||| nI w, s2), ⟨?_, ?_, ?_, Md_t i2 f2⟩, hst⟩
      · rw [q_fc_t hft, if_neg (by omega)]
      · rw [q_fo_t hft, ← i1]; rfl
      · rw [q_fo_t hft, ← i3]; rfl
    · rw [if_pos rfl] at hst
      refine ⟨(q0, q1, q3, s2), ⟨?_, ?_, ?_, Md_t i2 f2⟩, hst⟩
      · rw [q_fc_f hft]; exact i0
      · rw [q_fo_f hft]; exact i1
      · rw [q_fo_f hft]; exact i3
  · intro f ⟨⟨q0, q1, q3, q2⟩, ⟨i0, i1, i3, i2⟩, ee⟩
    dsimp only at i0 i1 i2 i3 ee
    have R2 : RP q2 t A := RP_md hR i2 (by decide)
    obtain ⟨e1, e2⟩ := r_worlds ht hA R2
    refine ⟨q2, Eq.trans ee ?_, i2⟩
    show GB_M_sure_44 N (G_M_sure_44 N (nI t) (nI e) f) (nI t) (nI e) q0 q1 q3 (nI (2 ^ q_nt A)) q2 = _
    unfold GB_M_sure_44 G_M_sure_92 G_M_sure_111
    rw [e1, Option.bind_some, e2, if_pos (nI_le (Nat.le_refl _) (by omega)), i0, i1, i3]
    by_cases c : q_fc A (2 ^ q_nt A) = 0
    · rw [if_pos c, if_pos c, if_pos nI_0]
    · rw [if_neg c, if_neg c, if_neg (by decide)]
      by_cases c2 : e = 0
      · rw [if_pos (by rw [c2]; rfl), if_pos c2]
        rfl
      · rw [if_neg (nI_ne0 (by omega) (by omega)), if_neg c2]
        rfl
end FOR
section FOC
variable {h0 : Nat → pm_C} {B : Nat} {D : Nat → pd} {hi z : Nat} {s : mst} {N P : Nat} {A : AP} {p1 : Int32}
theorem c_fitAt (hp : PL D hi P) (hA : WF A) (hL : FLs s P A (2 ^ q_nt A)) {w : Nat} (hw : w < 2 ^ q_nt A) (hft : FT A w) : F_Sheet_fitAt N (mkM h0 B D hi z s) (B + (P + 24)) (nI (q_fc A w)) = some (nI w, (mkM h0 B D hi z s)) := by
  have hpw := pow10 hA.1.2.2.2.2.2.1
  have h1 := q_fc_le (A := A) w
  have h2 := q_fc_le (A := A) (2 ^ q_nt A)
  unfold F_Sheet_fitAt F_Sheet_fitAt_20
  rw [sh_rc hp, if_pos rfl, sh_3 hp, hL.1]
  dsimp only [Option.bind_some]
  rw [if_neg (nI_ge (q_fc_lt hw hft) (by omega)), sh_1 hp]
  dsimp only [Option.bind_some]
  rw [ar_v (pl_A26 hp), vat_nI (by omega) (by decide), hL.2 w hw hft]
  rfl
theorem c_fitAt_n (hp : PL D hi P) (hA : WF A) (hL : FLs s P A (2 ^ q_nt A)) (hno : ¬ okn (q_fc A (2 ^ q_nt A)) p1) : F_Sheet_fitAt N (mkM h0 B D hi z s) (B + (P + 24)) p1 = some (-1, (mkM h0 B D hi z s)) := by
  have hpw := pow10 hA.1.2.2.2.2.2.1
  have h2 := q_fc_le (A := A) (2 ^ q_nt A)
  unfold F_Sheet_fitAt F_Sheet_fitAt_20
  rw [sh_rc hp, if_pos rfl, sh_3 hp, hL.1]
  dsimp only [Option.bind_some]
  rcases okn_not (show q_fc A (2 ^ q_nt A) < 2 ^ 31 by omega) hno with h | h
  · by_cases h3 : nI (q_fc A (2 ^ q_nt A)) ≤ p1
    · rw [if_pos h3]
    · rw [if_neg h3, sh_1 hp]
      dsimp only [Option.bind_some]
      rw [ar_v (pl_A26 hp)]
      dsimp only [Option.bind_some]
      unfold vat
      rw [if_pos h]
  · rw [if_pos h]
theorem c_fitting (hp : PL D hi P) (hA : WF A) (hL : FLs s P A (2 ^ q_nt A)) : ∃ r, (p1 = -1 → r = s.1 (P + 24) 3) ∧ (p1 ≠ -1 → F_Sheet_fitAt N (mkM h0 B D hi z s) (B + (P + 24)) p1 = some (r, (mkM h0 B D hi z s))) ∧ FIT A p1 r := by
  have hpw := pow10 hA.1.2.2.2.2.2.1
  by_cases c : p1 = -1
  · exact ⟨nI (q_fc A (2 ^ q_nt A)), fun _ => hL.1.symm, fun h => absurd c h, Or.inl ⟨c, rfl⟩⟩
  · by_cases ho : okn (q_fc A (2 ^ q_nt A)) p1
    · obtain ⟨i, hi1, rfl⟩ := ho
      obtain ⟨w, w1, w2, w3⟩ := q_fc_ex (A := A) _ i hi1
      rw [← w3]
      exact ⟨nI w, fun h => by rw [w3] at h; exact absurd h c, fun _ => c_fitAt hp hA hL w1 w2, Or.inr (Or.inl ⟨w, w1, w2, rfl, rfl⟩)⟩
    · refine ⟨-1, fun h => absurd h c, fun _ => c_fitAt_n hp hA hL ho, Or.inr (Or.inr ⟨c, fun w hw hft e => ?_, rfl⟩)⟩
      exact ho ⟨q_fc A w, q_fc_lt hw hft, e⟩
/-- a fold over the list, as the class does it -/
theorem c_fold (hN : 2000 ≤ N) (hA : WF A) {g : Int32 → Nat → Int32} {a0 : Int32} (Pa : Int32 → Prop) (hP0 : ∀ w, w < 2 ^ q_nt A → Pa (nI w)) (hPs : ∀ acc w, w < 2 ^ q_nt A → Pa acc → Pa (g acc w)) (hg0 : ∀ w, w < 2 ^ q_nt A → g a0 w = nI w) (F : Nat → Int32 → Int32 → pm_S → Option (Int32 × pm_S)) (hstep : ∀ f acc w, w < 2 ^ q_nt A → FT A w → Pa acc → F (f + 1) acc (nI (q_fc A w)) (mkM h0 B D hi z s) = F f (g acc w) (nI (q_fc A w + 1)) (mkM h0 B D hi z s)) (hend : ∀ f acc i, q_fc A (2 ^ q_nt A) ≤ i → i < 2000 → F (f + 1) acc (nI i) (mkM h0 B D hi z s) = some (acc, (mkM h0 B D hi z s))) {w0 : Nat} (hw0 : w0 < 2 ^ q_nt A) (hf0 : FT A w0) (h00 : q_fc A w0 = 0) : F N (nI w0) (nI 1) (mkM h0 B D hi z s) = some (q_fo A g a0 (2 ^ q_nt A), (mkM h0 B D hi z s)) := by
  have hpw := pow10 hA.1.2.2.2.2.2.1
  have h2 := q_fc_le (A := A) (2 ^ q_nt A)
  have h1 := q_fc_lt hw0 hf0
  refine Exists.elim (lpE (F := fun f i acc => F f acc (nI i) (mkM h0 B D hi z s)) (n := q_fc A (2 ^ q_nt A)) (I := fun i acc => Pa acc ∧ ∀ n, n ≤ 2 ^ q_nt A → q_fc A n = i → acc = q_fo A g a0 n) ?_ N 1 (nI w0) (by omega) (by omega) ⟨hP0 w0 hw0, ?_⟩) ?_
  · intro f i acc hi' ⟨hpa, hI⟩
    obtain ⟨w, w1, w2, w3⟩ := q_fc_ex (A := A) _ i hi'
    refine ⟨g acc w, ⟨hPs acc w w1 hpa, fun n hn hq => ?_⟩, ?_⟩
    · rw [q_fo_s w2 (by omega), hI w (by omega) w3]
    · have := hstep f acc w w1 w2 hpa
      rw [w3] at this
      exact this
  · intro n hn hq
    have h00' : q_fo A g a0 w0 = a0 := by
      have := q_fo_c (A := A) (g := g) (a0 := a0) (m := 0) w0 (by omega) (by rw [h00]; rfl)
      exact this
    rw [q_fo_s hf0 (by omega), h00', hg0 w0 hw0]
  · intro f ⟨acc, ⟨_, hI⟩, ee⟩
    refine Eq.trans ee ?_
    rw [hend f acc _ (Nat.le_refl _) (by omega), hI (2 ^ q_nt A) (Nat.le_refl _) rfl]
theorem c_comesBefore {S : pm_S} {x y : Int32} : (F_Sheet_comesBefore N S x y = some (1, S) ∧ cbI x y) ∨ (F_Sheet_comesBefore N S x y = some (0, S) ∧ ¬ cbI x y) := by
  unfold F_Sheet_comesBefore F_Sheet_comesBefore_46 F_Sheet_comesBefore_23 cbI
  rw [bcI_f]
  dsimp only [Option.bind_some]
  rw [bcI_f]
  dsimp only [Option.bind_some]
  by_cases c1 : bcI x - bcI y = 0
  · rw [if_pos c1]
    by_cases c2 : x &&& ((x ^^^ y) &&& (-(x ^^^ y))) = 0
    · rw [if_pos c2, if_pos (Or.inl rfl)]
      exact Or.inr ⟨rfl, fun h => by
        rcases h with h | h
        · exact h.2 c2
        · exact h.1 c1⟩
    · rw [if_neg c2, if_pos (Or.inr rfl)]
      exact Or.inl ⟨rfl, Or.inl ⟨c1, c2⟩⟩
  · rw [if_neg c1]
    by_cases c2 : 0 ≤ bcI x - bcI y
    · rw [if_pos c2, if_pos (Or.inl rfl)]
      exact Or.inr ⟨rfl, fun h => by
        rcases h with h | h
        · exact c1 h.1
        · exact h.2 c2⟩
    · rw [if_neg c2, if_pos (Or.inr rfl)]
      exact Or.inl ⟨rfl, Or.inr ⟨c1, c2⟩⟩
/-- the three answers, where one fits and where none does -/
theorem c_three (hN : 2000 ≤ N) (hp : PL D hi P) (hA : WF A) (hL : FLs s P A (2 ^ q_nt A)) : F_Sheet_smallest N (mkM h0 B D hi z s) (B + (P + 24)) = some (q_few A, (mkM h0 B D hi z s)) ∧ F_Sheet_inAll N (mkM h0 B D hi z s) (B + (P + 24)) = some (if q_fc A (2 ^ q_nt A) = 0 then -1 else q_all A, (mkM h0 B D hi z s)) ∧ F_Sheet_inSome N (mkM h0 B D hi z s) (B + (P + 24)) = some (if q_fc A (2 ^ q_nt A) = 0 then -1 else q_som A, (mkM h0 B D hi z s)) := by
  have hpw := pow10 hA.1.2.2.2.2.2.1
  have h2 := q_fc_le (A := A) (2 ^ q_nt A)
  have hcnt : ∀ i, q_fc A (2 ^ q_nt A) ≤ i → i < 2000 → nI (q_fc A (2 ^ q_nt A)) ≤ nI i := fun i h3 h4 => nI_le h3 (by omega)
  have hlow : ∀ w, w < 2 ^ q_nt A → FT A w → ¬ nI (q_fc A (2 ^ q_nt A)) ≤ nI (q_fc A w) := fun w h3 h4 => nI_ge (q_fc_lt h3 h4) (by omega)
  obtain ⟨M, hM⟩ : ∃ M, N = M + 1 := ⟨N - 1, by omega⟩
  unfold F_Sheet_smallest F_Sheet_inAll F_Sheet_inSome
  rw [sh_rc hp, if_pos rfl, if_pos rfl, if_pos rfl]
  -- ends of the loops
  have en1 : ∀ f acc i, q_fc A (2 ^ q_nt A) ≤ i → i < 2000 → F_Sheet_smallest_8 N (B + (P + 24)) (f + 1) acc (nI i) (mkM h0 B D hi z s) = some (acc, (mkM h0 B D hi z s)) := by
    intro f acc i h3 h4
    show B_Sheet_smallest_8 N (F_Sheet_smallest_8 N (B + (P + 24)) f) (B + (P + 24)) acc (nI i) (mkM h0 B D hi z s) = _
    unfold B_Sheet_smallest_8 F_Sheet_smallest_40
    rw [sh_3 hp, hL.1, Option.bind_some, if_pos (hcnt i h3 h4)]
  have en2 : ∀ f acc i, q_fc A (2 ^ q_nt A) ≤ i → i < 2000 → F_Sheet_inAll_8 N (B + (P + 24)) (f + 1) acc (nI i) (mkM h0 B D hi z s) = some (acc, (mkM h0 B D hi z s)) := by
    intro f acc i h3 h4
    show B_Sheet_inAll_8 N (F_Sheet_inAll_8 N (B + (P + 24)) f) (B + (P + 24)) acc (nI i) (mkM h0 B D hi z s) = _
    unfold B_Sheet_inAll_8 F_Sheet_inAll_30
    rw [sh_3 hp, hL.1, Option.bind_some, if_pos (hcnt i h3 h4)]
  have en3 : ∀ f acc i, q_fc A (2 ^ q_nt A) ≤ i → i < 2000 → F_Sheet_inSome_8 N (B + (P + 24)) (f + 1) acc (nI i) (mkM h0 B D hi z s) = some (acc, (mkM h0 B D hi z s)) := by
    intro f acc i h3 h4
    show B_Sheet_inSome_8 N (F_Sheet_inSome_8 N (B + (P + 24)) f) (B + (P + 24)) acc (nI i) (mkM h0 B D hi z s) = _
    unfold B_Sheet_inSome_8 F_Sheet_inSome_30
    rw [sh_3 hp, hL.1, Option.bind_some, if_pos (hcnt i h3 h4)]
  by_cases c : q_fc A (2 ^ q_nt A) = 0
  · have hfa : F_Sheet_fitAt N (mkM h0 B D hi z s) (B + (P + 24)) 0 = some (-1, (mkM h0 B D hi z s)) := c_fitAt_n hp hA hL (fun ⟨j, h3, _⟩ => by omega)
    rw [hfa, if_pos c, if_pos c]
    dsimp only [Option.bind_some]
    have hfew : q_few A = -1 := by
      unfold q_few
      rw [q_fo_c (A := A) (m := 0) _ (Nat.zero_le _) (by rw [c]; rfl)]
      rfl
    rw [hfew, hM]
    rw [hM] at en1 en2 en3
    exact ⟨en1 M (-1) 1 (by omega) (by omega), en2 M (-1) 1 (by omega) (by omega), en3 M (-1) 1 (by omega) (by omega)⟩
  · obtain ⟨w0, w1, w2, w3⟩ := q_fc_ex (A := A) (2 ^ q_nt A) 0 (by omega)
    have hfa : F_Sheet_fitAt N (mkM h0 B D hi z s) (B + (P + 24)) 0 = some (nI w0, (mkM h0 B D hi z s)) := by
      have := c_fitAt (N := N) (h0 := h0) (B := B) (z := z) hp hA hL w1 w2
      rw [w3] at this
      exact this
    rw [hfa, if_neg c, if_neg c]
    dsimp only [Option.bind_some]
    refine ⟨?_, ?_, ?_⟩
    · refine c_fold hN hA (g := gFew) (a0 := -1) (fun acc => ∃ w, w < 2 ^ q_nt A ∧ acc = nI w) (fun w hw => ⟨w, hw, rfl⟩) (fun acc w hw hpa => ?_) (fun w hw => ?_) (F_Sheet_smallest_8 N (B + (P + 24))) (fun f acc w hw hft hpa => ?_) en1 w1 w2 w3
      · rcases gFew_cases (acc := acc) (w := w) with h | h
        · exact ⟨w, hw, h.1⟩
        · rw [h.1]; exact hpa
      · rcases gFew_cases (acc := -1) (w := w) with h | h
        · exact h.1
        · exact absurd (Or.inl rfl) h.2
      · show B_Sheet_smallest_8 N (F_Sheet_smallest_8 N (B + (P + 24)) f) (B + (P + 24)) acc (nI (q_fc A w)) (mkM h0 B D hi z s) = _
        unfold B_Sheet_smallest_8 F_Sheet_smallest_34
        rw [sh_3 hp, hL.1, Option.bind_some, if_neg (hlow w hw hft), c_fitAt hp hA hL hw hft]
        dsimp only [Option.bind_some]
        obtain ⟨w', hw', rfl⟩ := hpa
        rcases c_comesBefore (N := N) (S := (mkM h0 B D hi z s)) (x := nI w) (y := nI w') with ⟨k1, k2⟩ | ⟨k1, k2⟩
        · rw [k1]
          dsimp only [Option.bind_some]
          rw [if_neg i10, c_fitAt hp hA hL hw hft]
          dsimp only [Option.bind_some]
          rw [nI_1]
          rcases gFew_cases (acc := nI w') (w := w) with h | h
          · rw [h.1]
          · exact absurd (Or.inr k2) h.2
        · rw [k1]
          dsimp only [Option.bind_some]
          rw [if_pos rfl, nI_1]
          rcases gFew_cases (acc := nI w') (w := w) with h | h
          · rcases h.2 with h3 | h3
            · exact absurd h3 (nI_n1 (by omega))
            · exact absurd h3 k2
          · rw [h.1]
    · refine c_fold hN hA (g := gAll) (a0 := nI (2 ^ q_nt A) - 1) (fun _ => True) (fun _ _ => trivial) (fun _ _ _ _ => trivial) (fun w hw => ?_) (F_Sheet_inAll_8 N (B + (P + 24))) (fun f acc w hw hft _ => ?_) en2 w1 w2 w3
      · unfold gAll
        rw [L_1, pk_sub (Nat.one_le_two_pow), nI_and, Nat.and_comm, Nat.and_two_pow_sub_one_eq_mod, Nat.mod_eq_of_lt hw]
      · show B_Sheet_inAll_8 N (F_Sheet_inAll_8 N (B + (P + 24)) f) (B + (P + 24)) acc (nI (q_fc A w)) (mkM h0 B D hi z s) = _
        unfold B_Sheet_inAll_8
        rw [sh_3 hp, hL.1, Option.bind_some, if_neg (hlow w hw hft), c_fitAt hp hA hL hw hft]
        dsimp only [Option.bind_some]
        rw [nI_1]
        rfl
    · refine c_fold hN hA (g := gSom) (a0 := 0) (fun _ => True) (fun _ _ => trivial) (fun _ _ _ _ => trivial) (fun w hw => ?_) (F_Sheet_inSome_8 N (B + (P + 24))) (fun f acc w hw hft _ => ?_) en3 w1 w2 w3
      · unfold gSom
        rw [L_0, nI_or, Nat.zero_or]
      · show B_Sheet_inSome_8 N (F_Sheet_inSome_8 N (B + (P + 24)) f) (B + (P + 24)) acc (nI (q_fc A w)) (mkM h0 B D hi z s) = _
        unfold B_Sheet_inSome_8
        rw [sh_3 hp, hL.1, Option.bind_some, if_neg (hlow w hw hft), c_fitAt hp hA hL hw hft]
        dsimp only [Option.bind_some]
        rw [nI_1]
        rfl
end FOC
