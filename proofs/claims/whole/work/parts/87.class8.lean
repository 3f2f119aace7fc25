/-! ===== METRES in the class ===== -/
/-- v is the least of S (0 none, k + 1) -/
def LSt (S : Nat → Prop) (v : Nat) : Prop := (v = 0 ∧ ∀ k, ¬ S k) ∨ (∃ k, v = k + 1 ∧ S k ∧ ∀ k', S k' → k ≤ k')
theorem q_ct_0 {bw bm : Nat → Nat} {u d : Nat} : ∀ n, q_ct bw bm u d n = 0 ↔ ∀ i, i < n → ¬ (bw i = u ∧ bm i ≤ d) := by
  intro n
  induction n with
  | zero => exact ⟨fun _ i hi => by omega, fun _ => rfl⟩
  | succ n ih =>
    simp only [q_ct]
    constructor
    · intro h i hi
      by_cases hin : i = n
      · subst hin
        intro c
        rw [if_pos c] at h
        omega
      · exact ih.mp (by omega) i (by omega)
    · intro h
      rw [ih.mpr (fun i hi => h i (by omega)), if_neg (h n (by omega))]
theorem q_ct_eq {bw bm : Nat → Nat} {u d d' : Nat} (hd : d ≤ d') : ∀ n, q_ct bw bm u d n ≤ q_ct bw bm u d' n ∧ (q_ct bw bm u d n = q_ct bw bm u d' n ↔ ∀ i, i < n → bw i = u → bm i ≤ d' → bm i ≤ d) := by
  intro n
  induction n with
  | zero => exact ⟨Nat.le_refl _, ⟨fun _ i hi => by omega, fun _ => rfl⟩⟩
  | succ n ih =>
    obtain ⟨i1, i2⟩ := ih
    simp only [q_ct]
    by_cases c : bw n = u ∧ bm n ≤ d
    · rw [if_pos c, if_pos ⟨c.1, by omega⟩]
      refine ⟨by omega, ⟨fun h i hi h1 h2 => ?_, fun h => ?_⟩⟩
      · by_cases hin : i = n
        · rw [hin]; exact c.2
        · exact i2.mp (by omega) i (by omega) h1 h2
      · rw [i2.mpr (fun i hi => h i (by omega))]
    · rw [if_neg c]
      by_cases c2 : bw n = u ∧ bm n ≤ d'
      · rw [if_pos c2]
        refine ⟨by omega, ⟨fun h => by omega, fun h => ?_⟩⟩
        exact absurd ⟨c2.1, h n (by omega) c2.1 c2.2⟩ c
      · rw [if_neg c2]
        refine ⟨by omega, ⟨fun h i hi h1 h2 => ?_, fun h => ?_⟩⟩
        · by_cases hin : i = n
          · subst hin; exact absurd ⟨h1, h2⟩ c2
          · exact i2.mp (by omega) i (by omega) h1 h2
        · rw [i2.mpr (fun i hi => h i (by omega))]
theorem LSt_FST {e L v : Nat} {S : Nat → Prop} (hS : ∀ d, S d → d ≤ L) (h : LSt (fun k => ∃ d, S d ∧ k = q_dk e L d) v) : ∃ f, FST e L S f ∧ ((v = 0 ∧ f = 0) ∨ (∃ d, d ≤ L ∧ S d ∧ v = q_dk e L d + 1 ∧ f = d + 1)) := by
  rcases h with ⟨h1, h2⟩ | ⟨k, h1, ⟨d, h2, h3⟩, h4⟩
  · exact ⟨0, Or.inl ⟨rfl, fun d hd hs => h2 (q_dk e L d) ⟨d, hs, rfl⟩⟩, Or.inl ⟨h1, rfl⟩⟩
  · have hd := hS d h2
    refine ⟨d + 1, Or.inr ⟨d, hd, rfl, h2, fun d' hd' hs' => ?_⟩, Or.inr ⟨d, hd, h2, by omega, rfl⟩⟩
    have h5 := h4 (q_dk e L d') ⟨d', hs', rfl⟩
    rw [h3] at h5
    unfold q_dk at h5
    by_cases he : e = 0
    · rw [if_pos he, if_pos he] at h5
      rw [if_pos he]
      exact h5
    · rw [if_neg he, if_neg he] at h5
      rw [if_neg he]
      omega
section MEA
variable {h0 : Nat → pm_C} {B : Nat} {D : Nat → pd} {hi z : Nat} {s : mst} {N P : Nat} {A : AP} {w wet k : Nat} {b : Nat × Nat}
theorem c_nearer (hf : FX D hi) {v k : Nat} {S : Nat → Prop} (hv : v ≤ 200) (hk : k ≤ 150) (h : LSt S v) : ∃ v', G_Wires_nearer N s (cd v) (nI k) = some (cd v', s) ∧ v' ≤ 200 ∧ LSt (fun x => S x ∨ x = k) v' := by
  unfold G_Wires_nearer G_Wires_nearer_10 G_Wires_nearer_15
  by_cases h0v : v = 0
  · rw [if_pos ((cd_n1 (by omega)).mpr h0v)]
    refine ⟨k + 1, by rw [cd_s], by omega, Or.inr ⟨k, rfl, Or.inr rfl, fun k' hk' => ?_⟩⟩
    rcases hk' with hk' | hk'
    · rcases h with ⟨_, h2⟩ | ⟨q, h1, _⟩
      · exact absurd hk' (h2 k')
      · omega
    · omega
  · obtain ⟨v1, rfl⟩ : ∃ v1, v = v1 + 1 := ⟨v - 1, by omega⟩
    rw [if_neg (fun e => h0v ((cd_n1 (by omega)).mp e)), cd_s]
    rcases h with ⟨h1, _⟩ | ⟨q, h1, h2, h3⟩
    · omega
    · have hq : q = v1 := by omega
      subst hq
      by_cases hle : q ≤ k
      · rw [if_pos (nI_le hle (by omega))]
        refine ⟨q + 1, by rw [cd_s], hv, Or.inr ⟨q, rfl, Or.inl h2, fun k' hk' => ?_⟩⟩
        rcases hk' with hk' | hk'
        · exact h3 k' hk'
        · omega
      · rw [if_neg (nI_ge (by omega) (by omega))]
        refine ⟨k + 1, by rw [cd_s], by omega, Or.inr ⟨k, rfl, Or.inr rfl, fun k' hk' => ?_⟩⟩
        rcases hk' with hk' | hk'
        · have := h3 k' hk'; omega
        · omega
theorem LSt_c {S S' : Nat → Prop} {v : Nat} (h : LSt S v) (e : ∀ k, S' k ↔ S k) : LSt S' v := by
  rcases h with ⟨h1, h2⟩ | ⟨k, h1, h2, h3⟩
  · exact Or.inl ⟨h1, fun k hk => h2 k ((e k).mp hk)⟩
  · exact Or.inr ⟨k, h1, (e k).mpr h2, fun k' hk' => h3 k' ((e k').mp hk')⟩
theorem c_toFirstBreak (hN : 100 ≤ N) (hf : FX D hi) {f : Nat → Nat → Nat} {u L e : Nat} (hu : u < 56) (hL : L ≤ 99) (he : e < 2) (h : CB s f 10) (hfL : f u 99 = f u L) : ∃ v, F_Wires_toFirstBreak N (mkM h0 B D hi z s) (B + 6) (nI u) (nI e) (nI L) = some (cd v, (mkM h0 B D hi z s)) ∧ v ≤ 200 ∧ (LSt (fun k => ∃ d, (d ≤ L ∧ (if d = 0 then 0 else f u (d - 1)) < f u d) ∧ k = q_dk e L d) v) ∧ ∀ d, d ≤ L → (f u d = (if e = 0 then 0 else f u L) ↔ (v = 0 ∨ q_dk e L d < v - 1 ∨ (q_dk e L d = v - 1 ∧ e = 1))) := by
  obtain ⟨⟨n, bw, bm, h1, h2, h3, h4⟩, h5⟩ := h
  have hbL : ∀ i, i < n → bw i = u → bm i ≤ L := by
    intro i hi' hb
    have h6 := (q_ct_eq (bw := bw) (bm := bm) (u := u) (show L ≤ 99 by omega) n).2
    rw [h4, h4] at h6
    exact h6.mp hfL.symm i hi' hb (h3 i hi').2.2.2
  have hloop : ∃ v, G_Wires_toFirstBreak N s (nI u) (nI e) (nI L) = some (cd v, s) ∧ v ≤ 200 ∧ LSt (fun k => ∃ i, i < n ∧ bw i = u ∧ k = q_dk e L (bm i)) v := by
    unfold G_Wires_toFirstBreak
    refine Exists.elim (lpE (F := fun g i (q : Int32 × mst) => G_Wires_toFirstBreak_6 N (nI u) (nI e) (nI L) g q.1 (nI i) q.2) (n := n) (I := fun i q => q.2 = s ∧ ∃ v, q.1 = cd v ∧ v ≤ 200 ∧ LSt (fun k => ∃ j, j < i ∧ bw j = u ∧ k = q_dk e L (bm j)) v) ?_ N 0 (-1, s) (by omega) (by omega) ⟨rfl, 0, by rw [cd_0], by omega, Or.inl ⟨rfl, fun k ⟨j, hj, _⟩ => by omega⟩⟩) ?_
    · intro g i ⟨q1, q2⟩ hi' ⟨i1, v, i2, i3, i4⟩
      dsimp only at i1 i2
      subst i1 i2
      obtain ⟨a1, a2, a3, a4⟩ := h3 i hi'
      by_cases c1 : bw i = u
      · have hb := hbL i hi' c1
        have hdk : q_dk e L (bm i) ≤ 150 := by unfold q_dk; split <;> omega
        obtain ⟨v', n1, n2, n3⟩ := c_nearer (N := N) (s := q2) hf i3 hdk i4
        refine ⟨(cd v', q2), ⟨rfl, v', rfl, n2, LSt_c n3 (fun k => ?_)⟩, ?_⟩
        · constructor
          · intro ⟨j, g1, g2, g3⟩
            by_cases hji : j = i
            · subst hji; exact Or.inr g3
            · exact Or.inl ⟨j, by omega, g2, g3⟩
          · intro g1
            rcases g1 with ⟨j, g1, g2, g3⟩ | g1
            · exact ⟨j, by omega, g2, g3⟩
            · exact ⟨i, by omega, c1, g1⟩
        · show GB_Wires_toFirstBreak_6 N (G_Wires_toFirstBreak_6 N (nI u) (nI e) (nI L) g) (nI u) (nI e) (nI L) (cd v) (nI i) q2 = _
          unfold GB_Wires_toFirstBreak_6 G_Wires_toFirstBreak_54 G_Wires_toFirstBreak_59
          rw [h2, if_neg (nI_ge hi' (by omega)), vat_nI (by omega) (by decide), a1, if_pos (by rw [c1]), vat_nI (by omega) (by decide), a2]
          unfold q_dk at n1
          by_cases he0 : e = 0
          · rw [if_pos he0] at n1
            rw [if_pos (by rw [he0]; rfl), n1]
            dsimp only [Option.bind_some]
            rw [nI_1]
          · rw [if_neg he0] at n1
            rw [if_neg (nI_ne0 (by omega) (by omega)), pk_sub hb, n1]
            dsimp only [Option.bind_some]
            rw [nI_1]
      · refine ⟨(cd v, q2), ⟨rfl, v, rfl, i3, LSt_c i4 (fun k => ?_)⟩, ?_⟩
        · constructor
          · intro ⟨j, g1, g2, g3⟩
            by_cases hji : j = i
            · subst hji; exact absurd g2 c1
            · exact ⟨j, by omega, g2, g3⟩
          · intro ⟨j, g1, g2, g3⟩
            exact ⟨j, by omega, g2, g3⟩
        · show GB_Wires_toFirstBreak_6 N (G_Wires_toFirstBreak_6 N (nI u) (nI e) (nI L) g) (nI u) (nI e) (nI L) (cd v) (nI i) q2 = _
          unfold GB_Wires_toFirstBreak_6 G_Wires_toFirstBreak_59
          rw [h2, if_neg (nI_ge hi' (by omega)), vat_nI (by omega) (by decide), a1, if_neg (fun e => c1 ((nI_eq (by omega) (by omega)).mp e)), nI_1]
    · intro g ⟨⟨q1, q2⟩, ⟨i1, v, i2, i3, i4⟩, e2⟩
      dsimp only at i1 i2 e2
      subst i1 i2
      refine ⟨v, Eq.trans e2 ?_, i3, i4⟩
      show GB_Wires_toFirstBreak_6 N (G_Wires_toFirstBreak_6 N (nI u) (nI e) (nI L) g) (nI u) (nI e) (nI L) (cd v) (nI n) q2 = _
      unfold GB_Wires_toFirstBreak_6 G_Wires_toFirstBreak_65
      rw [h2, if_pos (nI_le (Nat.le_refl _) (by omega))]
  obtain ⟨v, e1, e2, e3⟩ := hloop
  have hBP : ∀ d, (if d = 0 then 0 else f u (d - 1)) < f u d ↔ ∃ i, i < n ∧ bw i = u ∧ bm i = d := by
    intro d
    by_cases hd0 : d = 0
    · rw [if_pos hd0, hd0]
      have h6 := q_ct_0 (bw := bw) (bm := bm) (u := u) (d := 0) n
      rw [h4] at h6
      constructor
      · intro h7
        have h8 : ¬ ∀ i, i < n → ¬ (bw i = u ∧ bm i ≤ 0) := fun z => by have := h6.mpr z; omega
        have h9 : ∃ i, i < n ∧ bw i = u ∧ bm i = 0 := by
          apply Classical.byContradiction
          intro h10
          exact h8 (fun i hi' hh => h10 ⟨i, hi', hh.1, by omega⟩)
        exact h9
      · intro ⟨i, g1, g2, g3⟩
        apply Classical.byContradiction
        intro h10
        exact h6.mp (by omega) i g1 ⟨g2, by omega⟩
    · rw [if_neg hd0]
      have h6 := q_ct_eq (bw := bw) (bm := bm) (u := u) (show d - 1 ≤ d by omega) n
      rw [h4, h4] at h6
      constructor
      · intro h7
        apply Classical.byContradiction
        intro h10
        have := h6.2.mpr (fun i hi' g1 g2 => by
          apply Classical.byContradiction
          intro h11
          exact h10 ⟨i, hi', g1, by omega⟩)
        omega
      · intro ⟨i, g1, g2, g3⟩
        apply Classical.byContradiction
        intro h10
        have := h6.2.mp (by omega) i g1 g2 (by omega)
        omega
  refine ⟨v, ?_, e2, LSt_c e3 (fun k => ?_), fun d hd => ?_⟩
  · rw [sg_Wires_toFirstBreak hf, e1]
    rfl
  · constructor
    · intro ⟨d, ⟨g1, g2⟩, g3⟩
      obtain ⟨i, g4, g5, g6⟩ := (hBP d).mp g2
      exact ⟨i, g4, g5, by rw [g6]; exact g3⟩
    · intro ⟨i, g1, g2, g3⟩
      exact ⟨bm i, ⟨hbL i g1 g2, (hBP _).mpr ⟨i, g1, g2, rfl⟩⟩, g3⟩
  · by_cases he0 : e = 0
    · rw [if_pos he0]
      have h6 := q_ct_0 (bw := bw) (bm := bm) (u := u) (d := d) n
      rw [h4] at h6
      rw [h6]
      unfold q_dk at e3 ⊢
      simp only [if_pos he0] at e3 ⊢
      constructor
      · intro h7
        rcases e3 with ⟨g1, _⟩ | ⟨q, g1, ⟨i, g2, g3, g4⟩, _⟩
        · exact Or.inl g1
        · have := h7 i g2
          right; left
          apply Classical.byContradiction
          intro h8
          exact this ⟨g3, by omega⟩
      · intro h7 i hi' ⟨g1, g2⟩
        rcases e3 with ⟨_, g3⟩ | ⟨q, g3, _, g4⟩
        · exact g3 (bm i) ⟨i, hi', g1, rfl⟩
        · have := g4 (bm i) ⟨i, hi', g1, rfl⟩
          omega
    · have he1 : e = 1 := by omega
      rw [if_neg he0]
      have h6 := (q_ct_eq (bw := bw) (bm := bm) (u := u) hd n).2
      rw [h4, h4] at h6
      rw [h6]
      unfold q_dk at e3 ⊢
      simp only [if_neg he0] at e3 ⊢
      constructor
      · intro h7
        rcases e3 with ⟨g1, _⟩ | ⟨q, g1, ⟨i, g2, g3, g4⟩, _⟩
        · exact Or.inl g1
        · have := h7 i g2 g3 (hbL i g2 g3)
          right
          omega
      · intro h7 i hi' g1 g2
        rcases e3 with ⟨_, g3⟩ | ⟨q, g3, _, g4⟩
        · exact absurd ⟨i, hi', g1, rfl⟩ (g3 (L - bm i))
        · have := g4 (L - bm i) ⟨i, hi', g1, rfl⟩
          omega
theorem c_toFirstTouch (hN : 100 ≤ N) (hf : FX D hi) {T : Nat → Nat → Nat → Prop} {u L e : Nat} (hu : u < 56) (hL : L ≤ 99) (he : e < 2) (h : CT s T 10) (hTL : ∀ o d, T u o d ∨ T o u d → d ≤ L) : ∃ v, F_Wires_toFirstTouch N (mkM h0 B D hi z s) (B + 6) (nI u) (nI e) (nI L) = some (cd v, (mkM h0 B D hi z s)) ∧ v ≤ 200 ∧ LSt (fun k => ∃ d, (∃ o, T u o d ∨ T o u d) ∧ k = q_dk e L d) v := by
  obtain ⟨n, ta, tb, tm, h1, h2, h3, h4⟩ := h
  have hTi : ∀ i, i < n → ta i = u ∨ tb i = u → ∃ o, T u o (tm i) ∨ T o u (tm i) := by
    intro i hi' hc
    rcases hc with hc | hc
    · exact ⟨tb i, Or.inl ((h4 _ _ _).mpr ⟨i, hi', hc, rfl, rfl⟩)⟩
    · exact ⟨ta i, Or.inr ((h4 _ _ _).mpr ⟨i, hi', rfl, hc, rfl⟩)⟩
  have hloop : ∃ v, G_Wires_toFirstTouch N s (nI u) (nI e) (nI L) = some (cd v, s) ∧ v ≤ 200 ∧ LSt (fun k => ∃ i, i < n ∧ (ta i = u ∨ tb i = u) ∧ k = q_dk e L (tm i)) v := by
    unfold G_Wires_toFirstTouch
    refine Exists.elim (lpE (F := fun g i (q : Int32 × mst) => G_Wires_toFirstTouch_6 N (nI u) (nI e) (nI L) g q.1 (nI i) q.2) (n := n) (I := fun i q => q.2 = s ∧ ∃ v, q.1 = cd v ∧ v ≤ 200 ∧ LSt (fun k => ∃ j, j < i ∧ (ta j = u ∨ tb j = u) ∧ k = q_dk e L (tm j)) v) ?_ N 0 (-1, s) (by omega) (by omega) ⟨rfl, 0, by rw [cd_0], by omega, Or.inl ⟨rfl, fun k ⟨j, hj, _⟩ => by omega⟩⟩) ?_
    · intro g i ⟨q1, q2⟩ hi' ⟨i1, v, i2, i3, i4⟩
      dsimp only at i1 i2
      subst i1 i2
      obtain ⟨a1, a2, a3, a4, a5, a6⟩ := h3 i hi'
      by_cases c1 : ta i = u ∨ tb i = u
      · obtain ⟨o, ho⟩ := hTi i hi' c1
        have hb := hTL o _ ho
        have hdk : q_dk e L (tm i) ≤ 150 := by unfold q_dk; split <;> omega
        obtain ⟨v', n1, n2, n3⟩ := c_nearer (N := N) (s := q2) hf i3 hdk i4
        have h41 : G_Wires_toFirstTouch_41 N (G_Wires_toFirstTouch_6 N (nI u) (nI e) (nI L) g) (nI u) (nI e) (nI L) (cd v) (nI i) q2 = G_Wires_toFirstTouch_6 N (nI u) (nI e) (nI L) g (cd v') (nI (i + 1)) q2 := by
          unfold G_Wires_toFirstTouch_41 G_Wires_toFirstTouch_67 G_Wires_toFirstTouch_72
          rw [vat_nI (by omega) (by decide), a3]
          unfold q_dk at n1
          by_cases he0 : e = 0
          · rw [if_pos he0] at n1
            rw [if_pos (by rw [he0]; rfl), n1]
            dsimp only [Option.bind_some]
            rw [nI_1]
          · rw [if_neg he0] at n1
            rw [if_neg (nI_ne0 (by omega) (by omega)), pk_sub hb, n1]
            dsimp only [Option.bind_some]
            rw [nI_1]
        refine ⟨(cd v', q2), ⟨rfl, v', rfl, n2, LSt_c n3 (fun k => ?_)⟩, ?_⟩
        · constructor
          · intro ⟨j, g1, g2, g3⟩
            by_cases hji : j = i
            · subst hji; exact Or.inr g3
            · exact Or.inl ⟨j, by omega, g2, g3⟩
          · intro g1
            rcases g1 with ⟨j, g1, g2, g3⟩ | g1
            · exact ⟨j, by omega, g2, g3⟩
            · exact ⟨i, by omega, c1, g1⟩
        · show GB_Wires_toFirstTouch_6 N (G_Wires_toFirstTouch_6 N (nI u) (nI e) (nI L) g) (nI u) (nI e) (nI L) (cd v) (nI i) q2 = _
          unfold GB_Wires_toFirstTouch_6
          rw [h2, if_neg (nI_ge hi' (by omega)), vat_nI (by omega) (by decide), a1, vat_nI (by omega) (by decide), a2]
          by_cases c2 : ta i = u
          · rw [if_pos (by rw [c2])]; exact h41
          · rw [if_neg (fun e => c2 ((nI_eq (by omega) (by omega)).mp e)), if_pos (by rw [c1.resolve_left c2])]; exact h41
      · refine ⟨(cd v, q2), ⟨rfl, v, rfl, i3, LSt_c i4 (fun k => ?_)⟩, ?_⟩
        · constructor
          · intro ⟨j, g1, g2, g3⟩
            by_cases hji : j = i
            · subst hji; exact absurd g2 c1
            · exact ⟨j, by omega, g2, g3⟩
          · intro ⟨j, g1, g2, g3⟩
            exact ⟨j, by omega, g2, g3⟩
        · show GB_Wires_toFirstTouch_6 N (G_Wires_toFirstTouch_6 N (nI u) (nI e) (nI L) g) (nI u) (nI e) (nI L) (cd v) (nI i) q2 = _
          unfold GB_Wires_toFirstTouch_6 G_Wires_toFirstTouch_72
          rw [h2, if_neg (nI_ge hi' (by omega)), vat_nI (by omega) (by decide), a1, vat_nI (by omega) (by decide), a2, if_neg (fun e => c1 (Or.inl ((nI_eq (by omega) (by omega)).mp e))), if_neg (fun e => c1 (Or.inr ((nI_eq (by omega) (by omega)).mp e))), nI_1]
    · intro g ⟨⟨q1, q2⟩, ⟨i1, v, i2, i3, i4⟩, e2⟩
      dsimp only at i1 i2 e2
      subst i1 i2
      refine ⟨v, Eq.trans e2 ?_, i3, i4⟩
      show GB_Wires_toFirstTouch_6 N (G_Wires_toFirstTouch_6 N (nI u) (nI e) (nI L) g) (nI u) (nI e) (nI L) (cd v) (nI n) q2 = _
      unfold GB_Wires_toFirstTouch_6 G_Wires_toFirstTouch_78
      rw [h2, if_pos (nI_le (Nat.le_refl _) (by omega))]
  obtain ⟨v, e1, e2, e3⟩ := hloop
  refine ⟨v, ?_, e2, LSt_c e3 (fun k => ?_)⟩
  · rw [sg_Wires_toFirstTouch hf, e1]
    rfl
  · constructor
    · intro ⟨d, ⟨o, ho⟩, g3⟩
      rcases ho with ho | ho
      · obtain ⟨i, g4, g5, g6, g7⟩ := (h4 _ _ _).mp ho
        exact ⟨i, g4, Or.inl g5, by rw [g7]; exact g3⟩
      · obtain ⟨i, g4, g5, g6, g7⟩ := (h4 _ _ _).mp ho
        exact ⟨i, g4, Or.inr g6, by rw [g7]; exact g3⟩
    · intro ⟨i, g1, g2, g3⟩
      exact ⟨tm i, hTi i g1 g2, g3⟩
end MEA
