/-! ===== what does not hang on TESTS, readings and wants ===== -/
def SB (A A' : AP) : Prop := (∀ i, i < 5 → A' 0 i = A 0 i) ∧ ∀ f, 1 ≤ f → f ≤ 12 → A' f = A f
section SBS
variable {A A' : AP}
theorem sb_nb (h : SB A A') : q_nb A' = q_nb A := h.1 0 (by decide)
theorem sb_nc (h : SB A A') : q_nc A' = q_nc A := h.1 1 (by decide)
theorem sb_nq (h : SB A A') : q_nq A' = q_nq A := h.1 2 (by decide)
theorem sb_ns (h : SB A A') : q_ns A' = q_ns A := h.1 3 (by decide)
theorem sb_nt (h : SB A A') : q_nt A' = q_nt A := h.1 4 (by decide)
theorem sb_fr (h : SB A A') : q_fr A' = q_fr A := h.2 1 (by decide) (by decide)
theorem sb_tb (h : SB A A') : q_tb A' = q_tb A := h.2 2 (by decide) (by decide)
theorem sb_pr (h : SB A A') : q_pr A' = q_pr A := h.2 3 (by decide) (by decide)
theorem sb_ln (h : SB A A') : q_ln A' = q_ln A := h.2 4 (by decide) (by decide)
theorem sb_ok (h : SB A A') : q_ok A' = q_ok A := h.2 5 (by decide) (by decide)
theorem sb_os (h : SB A A') : q_os A' = q_os A := h.2 6 (by decide) (by decide)
theorem sb_ow (h : SB A A') : q_ow A' = q_ow A := h.2 7 (by decide) (by decide)
theorem sb_tk (h : SB A A') : q_tk A' = q_tk A := h.2 8 (by decide) (by decide)
theorem sb_tx (h : SB A A') : q_tx A' = q_tx A := h.2 9 (by decide) (by decide)
theorem sb_tp (h : SB A A') : q_tp A' = q_tp A := h.2 10 (by decide) (by decide)
theorem sb_tq (h : SB A A') : q_tq A' = q_tq A := h.2 11 (by decide) (by decide)
theorem sb_td (h : SB A A') : q_td A' = q_td A := h.2 12 (by decide) (by decide)
theorem sb_st (h : SB A A') : q_st A' = q_st A := by
  funext s
  unfold q_st
  rw [sb_nc h, sb_pr h]
theorem sb_op (h : SB A A') : q_op A' = q_op A := by
  funext k L
  unfold q_op
  rw [sb_ok h, sb_os h, sb_ow h]
theorem sb_ly (h : SB A A') : q_ly A' = q_ly A := by
  funext k
  induction k with
  | zero => rfl
  | succ k ih => simp only [q_ly, ih, sb_op h]
theorem sb_und (h : SB A A') : q_und A' = q_und A := by
  funext w i
  unfold q_und
  rw [sb_nt h, sb_tk h, sb_tx h]
theorem sb_lw (h : SB A A') : q_lw A' = q_lw A := by
  funext w i
  induction i with
  | zero => simp only [q_lw, sb_ly h, sb_nq h]
  | succ i ih =>
    simp only [q_lw]
    rw [ih, sb_und h, sb_op h, sb_nq h]
theorem sb_on (h : SB A A') : q_on A' = q_on A := by
  funext w
  unfold q_on
  rw [sb_lw h, sb_ns h]
theorem sb_hg (h : SB A A') : q_hg A' = q_hg A := by
  funext w
  unfold q_hg
  rw [sb_lw h, sb_ns h]
theorem sb_qa (h : SB A A') : q_a A' = q_a A := by
  funext k
  unfold q_a
  rw [sb_tx h, sb_tp h]
theorem sb_qb (h : SB A A') : q_b A' = q_b A := by
  funext k
  unfold q_b
  rw [sb_tx h, sb_tq h]
theorem sb_is (h : SB A A') (w k kind : Nat) : q_is A' w k kind ↔ q_is A w k kind := by
  show (so w k ∧ q_tk A' k = kind) ↔ (so w k ∧ q_tk A k = kind)
  rw [sb_tk h]
theorem sb_ou (h : SB A A') : q_ou A' = q_ou A := by
  funext w k
  induction k with
  | zero => rfl
  | succ k ih =>
    simp only [q_ou]
    rw [ih, sb_qa h, sb_qb h]
    funext s
    by_cases c : q_is A w k 0
    · rw [if_pos c, if_pos ((sb_is h w k 0).mpr c)]
    · rw [if_neg c, if_neg (fun y => c ((sb_is h w k 0).mp y))]
theorem sb_iu (h : SB A A') : q_iu A' = q_iu A := by
  funext w k
  induction k with
  | zero => rfl
  | succ k ih =>
    simp only [q_iu]
    rw [ih, sb_qa h, sb_qb h]
    funext s
    by_cases c : q_is A w k 0
    · rw [if_pos c, if_pos ((sb_is h w k 0).mpr c)]
    · rw [if_neg c, if_neg (fun y => c ((sb_is h w k 0).mp y))]
theorem sb_out (h : SB A A') : q_out A' = q_out A := by
  funext w
  unfold q_out
  rw [sb_ou h, sb_nt h]
theorem sb_in (h : SB A A') : q_in A' = q_in A := by
  funext w
  unfold q_in
  rw [sb_iu h, sb_nt h]
theorem sb_cn (h : SB A A') : q_cn A' = q_cn A := by
  funext w s d k
  induction k with
  | zero => rfl
  | succ k ih =>
    have e : (q_is A' w k 1 ∧ q_a A' k = s ∧ q_td A' k ≤ d) ↔ (q_is A w k 1 ∧ q_a A k = s ∧ q_td A k ≤ d) := by
      rw [sb_is h, sb_qa h, sb_td h]
    simp only [q_cn]
    rw [ih]
    by_cases c : q_is A w k 1 ∧ q_a A k = s ∧ q_td A k ≤ d
    · rw [if_pos c, if_pos (e.mpr c)]
    · rw [if_neg c, if_neg (fun y => c (e.mp y))]
theorem sb_nk (h : SB A A') : q_nk A' = q_nk A := by
  funext w b s d
  unfold q_nk
  rw [sb_cn h, sb_nt h]
theorem sb_TT (h : SB A A') : q_TT A' = q_TT A := by
  funext w a b d
  simp only [q_TT, q_is]
  rw [sb_nt h, sb_tk h, sb_qa h, sb_qb h, sb_td h]
theorem sb_E (h : SB A A') : q_E A' = q_E A := by
  funext w b wet n m
  unfold q_E
  rw [sb_st h, sb_on h, sb_out h, sb_nk h, sb_ln h, sb_TT h]
theorem sb_R (h : SB A A') : q_R A' = q_R A := by
  funext w b wet n m
  unfold q_R
  rw [sb_E h]
theorem sb_nd (h : SB A A') : q_nd A' = q_nd A := by
  funext w b s e
  unfold q_nd
  rw [sb_in h, sb_nk h, sb_ln h]
theorem sb_HB (h : SB A A') : HB A' = HB A := by
  funext w b wet v0 y e v
  unfold HB
  rw [sb_pr h, sb_R h, sb_nd h]
theorem sb_he (h : SB A A') : q_he A' = q_he A := by
  funext w b s e
  unfold q_he
  rw [sb_nk h, sb_ln h]
theorem sb_TP (h : SB A A') : q_TP A' = q_TP A := by
  funext w b wet s e d
  unfold q_TP
  rw [sb_TT h, sb_nk h, sb_he h]
theorem sb_BP (h : SB A A') : q_BP A' = q_BP A := by
  funext w b s d
  unfold q_BP
  rw [sb_nk h]
theorem sb_bk (h : SB A A') : q_bk A' = q_bk A := by
  funext w y
  unfold q_bk
  rw [sb_on h]
theorem sb_hm (h : SB A A') : q_hm A' = q_hm A := by
  funext w y
  unfold q_hm
  rw [sb_hg h]
theorem sb_nx (h : SB A A') : q_nx A' = q_nx A := by
  funext w s e
  unfold q_nx
  rw [sb_on h, sb_out h, sb_bk h, sb_in h]
theorem sb_mt (h : SB A A') : q_mt A' = q_mt A := by
  funext w b wet e f
  induction f with
  | zero => rfl
  | succ f ih =>
    simp only [q_mt]
    rw [ih, sb_ln h, sb_TP h, sb_BP h, sb_nx h, sb_hg h, sb_out h]
theorem sb_MT (h : SB A A') : MT A' = MT A := by
  funext w b wet u e r
  unfold MT
  rw [sb_mt h, sb_in h]
theorem sb_WD (h : SB A A') {k w wet v : Nat} {b : Nat × Nat} (e : ∀ f, 13 ≤ f → f ≤ 17 → A' f k = A f k) : WD A' k w b wet v ↔ WD A k w b wet v := by
  unfold WD
  rw [sb_HB h, sb_MT h, sb_nd h, show q_ek A' k = q_ek A k from e 13 (by decide) (by decide), show q_es A' k = q_es A k from e 14 (by decide) (by decide), show q_ee A' k = q_ee A k from e 15 (by decide) (by decide), show q_ey A' k = q_ey A k from e 16 (by decide) (by decide), show q_ei A' k = q_ei A k from e 17 (by decide) (by decide)]
theorem sb_f0 (h : SB A A') : q_f0 A' = q_f0 A := by
  funext c
  induction c with
  | zero => rfl
  | succ c ih =>
    simp only [q_f0]
    rw [ih, sb_fr h, sb_pr h]
/-- the same readings of TESTS that are the same -/
theorem sb_FT (h : SB A A') (hr : WFr A) (e1 : A' 0 6 = A 0 6) (e2 : ∀ f, 18 ≤ f → f ≤ 20 → ∀ k, k < q_nr A → A' f k = A f k) (e3 : ∀ f, 13 ≤ f → f ≤ 17 → ∀ k, k < q_ne A → A' f k = A f k) : FT A' = FT A := by
  funext w
  apply propext
  unfold FT
  rw [show q_nr A' = q_nr A from e1]
  have key : ∀ k, k < q_nr A → (WD A' (q_rt A' k) w (0, 0) (q_rw A' k) (q_rv A' k) ↔ WD A (q_rt A k) w (0, 0) (q_rw A k) (q_rv A k)) := by
    intro k hk
    rw [show q_rt A' k = q_rt A k from e2 18 (by decide) (by decide) k hk, show q_rw A' k = q_rw A k from e2 19 (by decide) (by decide) k hk, show q_rv A' k = q_rv A k from e2 20 (by decide) (by decide) k hk]
    exact sb_WD h (fun f f1 f2 => e3 f f1 f2 _ (hr k hk).1)
  exact ⟨fun y k hk => (key k hk).mp (y k hk), fun y k hk => (key k hk).mpr (y k hk)⟩
theorem sb_fc (e : FT A' = FT A) : q_fc A' = q_fc A := by
  funext n
  induction n with
  | zero => rfl
  | succ n ih =>
    by_cases c : FT A n
    · rw [q_fc_t c, q_fc_t (A := A') (by rw [e]; exact c), ih]
    · rw [q_fc_f c, q_fc_f (A := A') (by rw [e]; exact c), ih]
/-- the sheet stays true -/
theorem sb_SH {D : Nat → pd} {hi t P : Nat} {ow : Nat → Nat} {s : mst} (h : SB A A') (hS : SH D hi ow s t P A) (hne : q_ne A ≤ q_ne A') (e3 : ∀ f, 13 ≤ f → f ≤ 17 → ∀ k, k < q_ne A → A' f k = A f k) (e : s.1 (P + 24) 4 = nI 0 ∨ FT A' = FT A) : SH D hi ow s t P A' := by
  obtain ⟨⟨hC, r, r1, r2, r3⟩, hfr⟩ := hS
  refine ⟨⟨hC, r, r1, r2, fun j hj => ?_⟩, ?_⟩
  · obtain ⟨a1, a2, a3⟩ := r3 j hj
    refine ⟨by omega, a2, fun w hw => ?_⟩
    rw [sb_nt h] at hw
    obtain ⟨v, v1, v2⟩ := a3 w hw
    exact ⟨v, v1, (sb_WD h (fun f f1 f2 => e3 f f1 f2 _ (by omega))).mpr v2⟩
  · rcases e with e | e
    · exact Or.inl e
    · rcases hfr with y | ⟨y1, y2⟩
      · exact Or.inl y
      · refine Or.inr ⟨y1, ?_⟩
        unfold FLs at y2 ⊢
        rw [sb_nt h, sb_fc e, e]
        exact y2
theorem sb_WFc (h : SB A A') (hA : WFc A) (h1 : q_ne A' ≤ 12) (h2 : q_nr A' ≤ 24) : WFc A' := by
  unfold WFc at hA ⊢
  rw [sb_nb h, sb_nc h, sb_nq h, sb_ns h, sb_nt h]
  omega
theorem sb_WF (h : SB A A') (hA : WF A) (h1 : q_ne A' ≤ 12) (h2 : q_nr A' ≤ 24) (he : WFe A') (hr : WFr A') (hw : WFw A') : WF A' := by
  obtain ⟨a1, a2, a3, a4, a5, a6, a7, a8⟩ := hA
  refine ⟨sb_WFc h a1 h1 h2, ?_, ?_, ?_, ?_, he, hr, hw⟩
  · unfold WFx at a2 ⊢
    rw [sb_nc h, sb_fr h, sb_tb h, sb_nb h, sb_pr h, sb_ln h]
    exact a2
  · unfold WFd at a3 ⊢
    rw [sb_nc h, sb_tb h]
    exact a3
  · unfold WFo at a4 ⊢
    rw [sb_nq h, sb_ns h, sb_ok h, sb_st h, sb_os h, sb_ow h, sb_fr h, sb_tb h]
    exact a4
  · unfold WFt at a5 ⊢
    rw [sb_nt h, sb_tk h, sb_tx h, sb_ns h, sb_nc h, sb_tp h, sb_pr h, sb_tq h, sb_td h, sb_ln h]
    exact a5
theorem sb_CPc {s : mst} {P : Nat} (h : SB A A') (c : CPc s P A) : CPc s P A' := by
  unfold CPc at c ⊢
  rw [sb_nb h, sb_nc h, sb_fr h, sb_tb h, sb_pr h, sb_ln h]
  exact c
theorem sb_CPl {s : mst} {P : Nat} (h : SB A A') (c : CPl s P A) : CPl s P A' := by
  unfold CPl at c ⊢
  rw [sb_nc h, sb_f0 h, sb_ly h, sb_nq h, sb_lw h, sb_ns h]
  exact c
theorem sb_CPs {s : mst} {P : Nat} (h : SB A A') (c : CPs s P A) : CPs s P A' := by
  unfold CPs at c ⊢
  rw [sb_ns h, sb_ok h, sb_os h, sb_ow h, sb_nq h]
  exact c
theorem sb_CPt {s : mst} {P : Nat} (h : SB A A') (c : CPt s P A) : CPt s P A' := by
  unfold CPt at c ⊢
  rw [sb_nt h, sb_tk h, sb_tx h, sb_tp h, sb_tq h, sb_td h]
  exact c
theorem sb_RPc {s : mst} {t : Nat} (h : SB A A') (c : RPc s t A) : RPc s t A' := by
  unfold RPc at c ⊢
  rw [sb_nb h, sb_nc h, sb_fr h, sb_tb h, sb_pr h, sb_ln h]
  exact c
theorem sb_RPo {s : mst} {t : Nat} (h : SB A A') (c : RPo s t A) : RPo s t A' := by
  unfold RPo at c ⊢
  rw [sb_nq h, sb_ns h, sb_ok h, sb_os h, sb_ow h]
  exact c
theorem sb_RPt {s : mst} {t : Nat} (h : SB A A') (c : RPt s t A) : RPt s t A' := by
  unfold RPt at c ⊢
  rw [sb_nt h, sb_tk h, sb_tx h, sb_tp h, sb_tq h, sb_td h]
  exact c
end SBS
