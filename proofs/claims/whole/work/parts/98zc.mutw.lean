/-! ===== want ===== -/
def aW (A : AP) (j v : Nat) : AP := upF A 21 (updN (A 21) j v)
def QW (A : AP) (j x p : Nat) (o : Nat) : Prop := o ≠ j ∧ (∃ u, q_hm A 0 o = u + 1 ∧ u / 8 = x) ∧ q_wt A o = p + 1
section WNS
variable {h0 : Nat → pm_C} {B : Nat} {D : Nat → pd} {hi z : Nat} {s : mst} {N np : Nat} {As : Nat → AP} {Ps ow : Nat → Nat} {P L : Nat} {bt : Nat → Nat} {A : AP} {p0 p1 p2 : Int32} {k x p q d t u e y i j v : Nat}
theorem aW_ag : AG A (aW A j v) [21] [] := by
  refine ⟨fun f f0 hf => ?_, fun i hi => ?_⟩
  · unfold aW
    rw [upF_n (fun e => hf (by rw [e]; decide))]
  · unfold aW
    rw [upF_n (by decide)]
theorem aW_wt : q_wt (aW A j v) = updN (q_wt A) j v := by
  show aW A j v 21 = _
  unfold aW
  rw [upF_s]
  rfl
theorem aW_WF (hA : WF A) (hv : v ≤ 6) : WF (aW A j v) := by
  have g := aW_ag (A := A) (j := j) (v := v)
  have hsb := AG_SB g (by decide) (by decide)
  have a1 := hA.1
  unfold WFc at a1
  refine sb_WF hsb hA (by rw [ag_ne g (by decide)]; omega) (by rw [ag_nr g (by decide)]; omega) (ag_WFe g (by decide) (by decide) (by decide) (by decide) (by decide) (by decide) (by decide) (by decide) hA.2.2.2.2.2.1) (ag_WFr g (by decide) (by decide) (by decide) (by decide) (by decide) hA.2.2.2.2.2.2.1) ?_
  intro h hh
  rw [aW_wt]
  by_cases c : h = j
  · rw [c, updN_s]; exact hv
  · rw [updN_n c]; exact hA.2.2.2.2.2.2.2 h hh
theorem c_wanted (hN : 100 ≤ N) (hp : PL D hi P) (hcp : CP s P A) (hA : WF A) (hx : x < q_nc A) (hpp : p < q_pr A x) (hj : j < 10) : (F_Plan_isWantedByOther N (mkM h0 B D hi z s) (B + P) (nI x) (nI p) (nI j) = some (1, (mkM h0 B D hi z s)) ∧ ∃ o, o < 10 ∧ QW A j x p o) ∨ (F_Plan_isWantedByOther N (mkM h0 B D hi z s) (B + P) (nI x) (nI p) (nI j) = some (0, (mkM h0 B D hi z s)) ∧ ∀ o, o < 10 → ¬ QW A j x p o) := by
  have hc := hA.1
  unfold WFc at hc
  have hxx := hA.2.1 x hx
  unfold F_Plan_isWantedByOther
  rw [pl_rc hp, if_pos rfl]
  refine Exists.elim (lpQ (F := fun f o (S : mst) => F_Plan_isWantedByOther_3 N (B + P) (nI x) (nI p) (nI j) f (nI o) (mkM h0 B D hi z (S))) (n := 10) (I := fun o S => S = s ∧ ∀ o', o' < o → ¬ QW A j x p o') (Q := fun r => (r = ((1 : Int32), (mkM h0 B D hi z s)) ∧ ∃ o, o < 10 ∧ QW A j x p o) ∨ (r = ((0 : Int32), (mkM h0 B D hi z s)) ∧ ∀ o, o < 10 → ¬ QW A j x p o)) ?_ ?_ N 0 s (by omega) (by omega) ⟨rfl, fun o' ho' => by omega⟩) ?_
  rotate_left 2
  · intro r ⟨hr, e⟩
    rcases hr with ⟨rfl, hr⟩ | ⟨rfl, hr⟩
    · exact Or.inl ⟨e, hr⟩
    · exact Or.inr ⟨e, hr⟩
  · intro f o S ho ⟨hS, hI⟩
    subst hS
    have e14 : S.1 (P + 10 + 4) o = cd (q_hm A 0 o) := hcp.2.1.2.2.2 o ho
    have e23 : S.1 (P + 23) o = cd (q_wt A o) := hcp.2.2.2.2.2.2 o ho
    have hw := hA.2.2.2.2.2.2.2 o ho
    have hun : F_Plan_isWantedByOther_3 N (B + P) (nI x) (nI p) (nI j) (f + 1) (nI o) (mkM h0 B D hi z (S)) = if cd (q_hm A 0 o) = -1 then F_Plan_isWantedByOther_3 N (B + P) (nI x) (nI p) (nI j) f (nI (o + 1)) (mkM h0 B D hi z (S)) else (F_BP_cableOf N (mkM h0 B D hi z (S)) (cd (q_hm A 0 o))).bind fun (v12, S11) => if v12 = nI x then F_Plan_isWantedByOther_44 N (F_Plan_isWantedByOther_3 N (B + P) (nI x) (nI p) (nI j) f) (B + P) (nI x) (nI p) (nI j) (nI o) 1 S11 else F_Plan_isWantedByOther_43 N (F_Plan_isWantedByOther_3 N (B + P) (nI x) (nI p) (nI j) f) (B + P) (nI x) (nI p) (nI j) (nI o) S11 := by
      show B_Plan_isWantedByOther_3 N (F_Plan_isWantedByOther_3 N (B + P) (nI x) (nI p) (nI j) f) (B + P) (nI x) (nI p) (nI j) (nI o) (mkM h0 B D hi z (S)) = _
      unfold B_Plan_isWantedByOther_3
      rw [L_10, if_neg (nI_ge ho (by decide)), pl_5 hp]
      dsimp only [Option.bind_some]
      rw [yt_3 (pl_T10 hp)]
      dsimp only [Option.bind_some]
      rw [ar_v (pl_T10 hp).2.2.2.2.2, vat_nI ho (by decide), e14]
      dsimp only [Option.bind_some]
      have h43 : F_Plan_isWantedByOther_43 N (F_Plan_isWantedByOther_3 N (B + P) (nI x) (nI p) (nI j) f) (B + P) (nI x) (nI p) (nI j) (nI o) (mkM h0 B D hi z (S)) = F_Plan_isWantedByOther_3 N (B + P) (nI x) (nI p) (nI j) f (nI (o + 1)) (mkM h0 B D hi z (S)) := by
        unfold F_Plan_isWantedByOther_43 F_Plan_isWantedByOther_44 F_Plan_isWantedByOther_72
        rw [if_pos rfl, ite_self, nI_1]
      rw [h43]
    have skip : ¬ QW A j x p o → F_Plan_isWantedByOther_3 N (B + P) (nI x) (nI p) (nI j) (f + 1) (nI o) (mkM h0 B D hi z (S)) = F_Plan_isWantedByOther_3 N (B + P) (nI x) (nI p) (nI j) f (nI (o + 1)) (mkM h0 B D hi z (S)) → (∃ s', (s' = S ∧ ∀ o', o' < o + 1 → ¬ QW A j x p o') ∧ F_Plan_isWantedByOther_3 N (B + P) (nI x) (nI p) (nI j) (f + 1) (nI o) (mkM h0 B D hi z (S)) = F_Plan_isWantedByOther_3 N (B + P) (nI x) (nI p) (nI j) f (nI (o + 1)) (mkM h0 B D hi z (s'))) := by
      intro hq e
      refine ⟨S, ⟨rfl, fun o' ho' => ?_⟩, e⟩
      by_cases c : o' = o
      · rw [c]; exact hq
      · exact hI o' (by omega)
    rw [hun] at skip ⊢
    by_cases c0 : q_hm A 0 o = 0
    · left
      rw [c0, cd_0, if_pos rfl] at skip ⊢
      exact skip (fun ⟨_, ⟨u, y, _⟩, _⟩ => by omega) rfl
    · obtain ⟨u, hu⟩ : ∃ u, q_hm A 0 o = u + 1 := ⟨q_hm A 0 o - 1, by omega⟩
      have hul := q_st_lt hA (q_hg_st hA ((q_hm_s hA).mp hu)).1
      rw [hu, cd_s, if_neg (nI_n1 (by omega)), c_cableOf (by omega)] at skip ⊢
      dsimp only [Option.bind_some] at skip ⊢
      by_cases c1 : u / 8 = x
      · rw [if_pos (by rw [c1])] at skip ⊢
        unfold F_Plan_isWantedByOther_44 F_Plan_isWantedByOther_72 F_Plan_isWantedByOther_70 at skip ⊢
        rw [nI_1] at skip ⊢
        by_cases c2 : o = j
        · left
          rw [if_pos (by rw [c2])] at skip ⊢
          exact skip (fun y => y.1 c2) rfl
        · rw [if_neg (fun y => c2 ((nI_eq (by omega) (by omega)).mp y)), if_neg i10, pl_10 hp] at skip ⊢
          dsimp only [Option.bind_some] at skip ⊢
          rw [ar_v (pl_A23 hp), vat_nI ho (by decide), e23] at skip ⊢
          dsimp only [Option.bind_some] at skip ⊢
          by_cases c3 : q_wt A o = p + 1
          · right
            rw [c3, cd_s, if_pos rfl]
            exact ⟨_, Or.inl ⟨rfl, o, ho, c2, ⟨u, hu, c1⟩, c3⟩, rfl⟩
          · left
            rw [if_neg (fun y => c3 ((cd_nI (by omega) (by omega)).mp y))] at skip ⊢
            exact skip (fun y => c3 y.2.2) rfl
      · left
        rw [if_neg (fun y => c1 ((nI_eq (by omega) (by omega)).mp y))] at skip ⊢
        have h43 : F_Plan_isWantedByOther_43 N (F_Plan_isWantedByOther_3 N (B + P) (nI x) (nI p) (nI j) f) (B + P) (nI x) (nI p) (nI j) (nI o) (mkM h0 B D hi z (S)) = F_Plan_isWantedByOther_3 N (B + P) (nI x) (nI p) (nI j) f (nI (o + 1)) (mkM h0 B D hi z (S)) := by
          unfold F_Plan_isWantedByOther_43 F_Plan_isWantedByOther_44 F_Plan_isWantedByOther_72
          rw [if_pos rfl, ite_self, nI_1]
        refine skip (fun ⟨_, ⟨u', y, y2⟩, _⟩ => c1 (by rw [hu] at y; rw [show u = u' by omega]; exact y2)) h43
  · intro f S ⟨hS, hI⟩
    subst hS
    refine ⟨_, Or.inr ⟨rfl, hI⟩, ?_⟩
    show B_Plan_isWantedByOther_3 N (F_Plan_isWantedByOther_3 N (B + P) (nI x) (nI p) (nI j) f) (B + P) (nI x) (nI p) (nI j) (nI 10) (mkM h0 B D hi z (S)) = _
    unfold B_Plan_isWantedByOther_3 F_Plan_isWantedByOther_78
    rw [L_10, if_pos (nI_le (Nat.le_refl _) (by decide))]
/-- the same search in the reference -/
theorem r_wanted {w wet : Nat} {b : Nat × Nat} (hN : 1000 ≤ N) (ht : t < 6) (hA : WF A) (hR : RP s t A) (hW : RW s t A 0 (0, 0) 0) (hp : p < 6) (hj : j < 10) (hu : u < 56) (hu6 : u % 8 < 6) : (G_M_want_66 N (nI t) (nI j) (nI p) (nI (6 * (u / 8) + u % 8)) N 0 s = some (0, s) ∧ ∃ o, o < 10 ∧ QW A j (u / 8) p o) ∨ (G_M_want_66 N (nI t) (nI j) (nI p) (nI (6 * (u / 8) + u % 8)) N 0 s = G_M_want_135 N (nI t) (nI j) (nI p) s ∧ ∀ o, o < 10 → ¬ QW A j (u / 8) p o) := by
  have hc := hA.1
  unfold WFc at hc
  refine Exists.elim (lpQ (F := fun f o (S : mst) => (G_M_want_66 N (nI t) (nI j) (nI p) (nI (6 * (u / 8) + u % 8)) f (nI o) S).map some |>.orElse (fun _ => some none)) (n := 10) (I := fun o S => S = s ∧ ∀ o', o' < o → ¬ QW A j (u / 8) p o') (Q := fun r => (r = some ((0 : Int32), s) ∧ ∃ o, o < 10 ∧ QW A j (u / 8) p o) ∨ (r = G_M_want_135 N (nI t) (nI j) (nI p) s ∧ ∀ o, o < 10 → ¬ QW A j (u / 8) p o)) ?_ ?_ N 0 s (by omega) (by omega) ⟨rfl, fun o' ho' => by omega⟩) ?_
  rotate_left 2
  · intro r ⟨hr, e⟩
    have e' : G_M_want_66 N (nI t) (nI j) (nI p) (nI (6 * (u / 8) + u % 8)) N (nI 0) s = r := by
      revert e
      cases G_M_want_66 N (nI t) (nI j) (nI p) (nI (6 * (u / 8) + u % 8)) N (nI 0) s with
      | none => intro e; exact (Option.some.inj e)
      | some w => intro e; exact (Option.some.inj e)
    rcases hr with ⟨rfl, hr⟩ | ⟨rfl, hr⟩
    · exact Or.inl ⟨e', hr⟩
    · exact Or.inr ⟨e', hr⟩
  · intro f o S ho ⟨hS, hI⟩
    subst hS
    have hha := r_hangsAt (N := N) hN hA hW ho
    have hw := hA.2.2.2.2.2.2.2 o ho
    have e125 := rp_wt hR ho
    have hun : G_M_want_66 N (nI t) (nI j) (nI p) (nI (6 * (u / 8) + u % 8)) (f + 1) (nI o) S = if nI o = nI j then G_M_want_66 N (nI t) (nI j) (nI p) (nI (6 * (u / 8) + u % 8)) f (nI (o + 1)) S else if cd (r6 (q_hm A 0 o)) = -1 then G_M_want_66 N (nI t) (nI j) (nI p) (nI (6 * (u / 8) + u % 8)) f (nI (o + 1)) S else if cd (r6 (q_hm A 0 o)) / 6 = nI (6 * (u / 8) + u % 8) / 6 then (if cd (q_wt A o) = nI p then some (0, S) else G_M_want_66 N (nI t) (nI j) (nI p) (nI (6 * (u / 8) + u % 8)) f (nI (o + 1)) S) else G_M_want_66 N (nI t) (nI j) (nI p) (nI (6 * (u / 8) + u % 8)) f (nI (o + 1)) S := by
      show GB_M_want_66 N (G_M_want_66 N (nI t) (nI j) (nI p) (nI (6 * (u / 8) + u % 8)) f) (nI t) (nI j) (nI p) (nI (6 * (u / 8) + u % 8)) (nI o) S = _
      unfold GB_M_want_66 G_M_want_129 G_M_want_127
      rw [L_10, if_neg (nI_ge ho (by decide)), hha, Option.bind_some]
      dsimp only
      rw [if_neg (nI_n1 (by omega)), nI_1, nI_mul, nI_add, rdA_nI (by omega) (by decide), Option.bind_some, e125]
    have skip : ¬ QW A j (u / 8) p o → G_M_want_66 N (nI t) (nI j) (nI p) (nI (6 * (u / 8) + u % 8)) (f + 1) (nI o) S = G_M_want_66 N (nI t) (nI j) (nI p) (nI (6 * (u / 8) + u % 8)) f (nI (o + 1)) S → (∃ s', (s' = S ∧ ∀ o', o' < o + 1 → ¬ QW A j (u / 8) p o') ∧ ((G_M_want_66 N (nI t) (nI j) (nI p) (nI (6 * (u / 8) + u % 8)) (f + 1) (nI o) S).map some |>.orElse (fun _ => some none)) = ((G_M_want_66 N (nI t) (nI j) (nI p) (nI (6 * (u / 8) + u % 8)) f (nI (o + 1)) s').map some |>.orElse (fun _ => some none))) := by
      intro hq e
      refine ⟨S, ⟨rfl, fun o' ho' => ?_⟩, by rw [e]⟩
      by_cases c : o' = o
      · rw [c]; exact hq
      · exact hI o' (by omega)
    by_cases c2 : o = j
    · left
      refine skip (fun y => y.1 c2) ?_
      rw [hun, if_pos (by rw [c2])]
    · rw [if_neg (fun y => c2 ((nI_eq (by omega) (by omega)).mp y))] at hun
      by_cases c0 : q_hm A 0 o = 0
      · left
        refine skip (fun ⟨_, ⟨u, y, _⟩, _⟩ => by omega) ?_
        rw [hun, c0, r6_0, cd_0, if_pos rfl]
      · obtain ⟨u', hu'⟩ : ∃ u', q_hm A 0 o = u' + 1 := ⟨q_hm A 0 o - 1, by omega⟩
        have hul := q_st_lt hA (q_hg_st hA ((q_hm_s hA).mp hu')).1
        rw [hu', r6_s, cd_s, if_neg (nI_n1 (by omega)), L_6, pk_div (by omega) (by omega) (by omega), pk_div (by omega) (by omega) (by omega), show (6 * (u' / 8) + u' % 8) / 6 = u' / 8 by omega, show (6 * (u / 8) + u % 8) / 6 = u / 8 by omega] at hun
        by_cases c1 : u' / 8 = u / 8
        · rw [if_pos (by rw [c1])] at hun
          by_cases c3 : q_wt A o = p + 1
          · right
            rw [c3, cd_s, if_pos rfl] at hun
            refine ⟨some (0, S), Or.inl ⟨rfl, o, ho, c2, ⟨u', hu', c1⟩, c3⟩, ?_⟩
            rw [hun]
            rfl
          · left
            refine skip (fun y => c3 y.2.2) ?_
            rw [hun, if_neg (fun y => c3 ((cd_nI (by omega) (by omega)).mp y))]
        · left
          refine skip (fun ⟨_, ⟨u2, y, y2⟩, _⟩ => c1 (by rw [hu'] at y; rw [show u' = u2 by omega]; exact y2)) ?_
          rw [hun, if_neg (fun y => c1 ((nI_eq (by omega) (by omega)).mp y))]
  · intro f S ⟨hS, hI⟩
    subst hS
    refine ⟨G_M_want_135 N (nI t) (nI j) (nI p) S, Or.inr ⟨rfl, hI⟩, ?_⟩
    have he : G_M_want_66 N (nI t) (nI j) (nI p) (nI (6 * (u / 8) + u % 8)) (f + 1) (nI 10) S = G_M_want_135 N (nI t) (nI j) (nI p) S := by
      show GB_M_want_66 N (G_M_want_66 N (nI t) (nI j) (nI p) (nI (6 * (u / 8) + u % 8)) f) (nI t) (nI j) (nI p) (nI (6 * (u / 8) + u % 8)) (nI 10) S = _
      unfold GB_M_want_66
      rw [L_10, if_pos (nI_le (Nat.le_refl _) (by decide))]
    rw [he]
    cases G_M_want_135 N (nI t) (nI j) (nI p) S <;> rfl
theorem r_unwanted (hN : 1000 ≤ N) (hA : WF A) (hW : RW s t A 0 (0, 0) 0) {x4 : Int32} : G_M_want_66 N (nI t) (nI j) (-1) x4 N 0 s = G_M_want_135 N (nI t) (nI j) (-1) s := by
  refine Exists.elim (lpE (F := fun f o (S : mst) => G_M_want_66 N (nI t) (nI j) (-1) x4 f (nI o) S) (n := 10) (I := fun o S => S = s) ?_ N 0 s (by omega) (by omega) rfl) ?_
  · intro f o S ho hS
    subst hS
    refine ⟨S, rfl, ?_⟩
    show GB_M_want_66 N (G_M_want_66 N (nI t) (nI j) (-1) x4 f) (nI t) (nI j) (-1) x4 (nI o) S = _
    unfold GB_M_want_66 G_M_want_129
    rw [L_10, if_neg (nI_ge ho (by decide)), r_hangsAt hN hA hW ho, Option.bind_some]
    dsimp only
    rw [if_pos rfl, nI_1]
  · intro f ⟨S, hS, e⟩
    subst hS
    refine Eq.trans e ?_
    show GB_M_want_66 N (G_M_want_66 N (nI t) (nI j) (-1) x4 f) (nI t) (nI j) (-1) x4 (nI 10) S = _
    unfold GB_M_want_66
    rw [L_10, if_pos (nI_le (Nat.le_refl _) (by decide))]
end WNS
