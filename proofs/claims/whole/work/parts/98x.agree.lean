/-! ===== PLANS that are alike in some fields; parts of a PLAN's cells ===== -/
def AG (A A' : AP) (fs cs : List Nat) : Prop := (∀ f, f ≠ 0 → f ∉ fs → A' f = A f) ∧ ∀ i, i ∉ cs → A' 0 i = A 0 i
section AGS
variable {A A' : AP} {fs cs : List Nat}
theorem ag_nb (h : AG A A' fs cs) (c : 0 ∉ cs) : q_nb A' = q_nb A := h.2 0 c
theorem ag_nc (h : AG A A' fs cs) (c : 1 ∉ cs) : q_nc A' = q_nc A := h.2 1 c
theorem ag_nq (h : AG A A' fs cs) (c : 2 ∉ cs) : q_nq A' = q_nq A := h.2 2 c
theorem ag_ns (h : AG A A' fs cs) (c : 3 ∉ cs) : q_ns A' = q_ns A := h.2 3 c
theorem ag_nt (h : AG A A' fs cs) (c : 4 ∉ cs) : q_nt A' = q_nt A := h.2 4 c
theorem ag_ne (h : AG A A' fs cs) (c : 5 ∉ cs) : q_ne A' = q_ne A := h.2 5 c
theorem ag_nr (h : AG A A' fs cs) (c : 6 ∉ cs) : q_nr A' = q_nr A := h.2 6 c
theorem ag_fr (h : AG A A' fs cs) (c : 1 ∉ fs) : q_fr A' = q_fr A := h.1 1 (by decide) c
theorem ag_tb (h : AG A A' fs cs) (c : 2 ∉ fs) : q_tb A' = q_tb A := h.1 2 (by decide) c
theorem ag_pr (h : AG A A' fs cs) (c : 3 ∉ fs) : q_pr A' = q_pr A := h.1 3 (by decide) c
theorem ag_ln (h : AG A A' fs cs) (c : 4 ∉ fs) : q_ln A' = q_ln A := h.1 4 (by decide) c
theorem ag_ok (h : AG A A' fs cs) (c : 5 ∉ fs) : q_ok A' = q_ok A := h.1 5 (by decide) c
theorem ag_os (h : AG A A' fs cs) (c : 6 ∉ fs) : q_os A' = q_os A := h.1 6 (by decide) c
theorem ag_ow (h : AG A A' fs cs) (c : 7 ∉ fs) : q_ow A' = q_ow A := h.1 7 (by decide) c
theorem ag_tk (h : AG A A' fs cs) (c : 8 ∉ fs) : q_tk A' = q_tk A := h.1 8 (by decide) c
theorem ag_tx (h : AG A A' fs cs) (c : 9 ∉ fs) : q_tx A' = q_tx A := h.1 9 (by decide) c
theorem ag_tp (h : AG A A' fs cs) (c : 10 ∉ fs) : q_tp A' = q_tp A := h.1 10 (by decide) c
theorem ag_tq (h : AG A A' fs cs) (c : 11 ∉ fs) : q_tq A' = q_tq A := h.1 11 (by decide) c
theorem ag_td (h : AG A A' fs cs) (c : 12 ∉ fs) : q_td A' = q_td A := h.1 12 (by decide) c
theorem ag_ek (h : AG A A' fs cs) (c : 13 ∉ fs) : q_ek A' = q_ek A := h.1 13 (by decide) c
theorem ag_es (h : AG A A' fs cs) (c : 14 ∉ fs) : q_es A' = q_es A := h.1 14 (by decide) c
theorem ag_ee (h : AG A A' fs cs) (c : 15 ∉ fs) : q_ee A' = q_ee A := h.1 15 (by decide) c
theorem ag_ey (h : AG A A' fs cs) (c : 16 ∉ fs) : q_ey A' = q_ey A := h.1 16 (by decide) c
theorem ag_ei (h : AG A A' fs cs) (c : 17 ∉ fs) : q_ei A' = q_ei A := h.1 17 (by decide) c
theorem ag_rt (h : AG A A' fs cs) (c : 18 ∉ fs) : q_rt A' = q_rt A := h.1 18 (by decide) c
theorem ag_rw (h : AG A A' fs cs) (c : 19 ∉ fs) : q_rw A' = q_rw A := h.1 19 (by decide) c
theorem ag_rv (h : AG A A' fs cs) (c : 20 ∉ fs) : q_rv A' = q_rv A := h.1 20 (by decide) c
theorem ag_wt (h : AG A A' fs cs) (c : 21 ∉ fs) : q_wt A' = q_wt A := h.1 21 (by decide) c
theorem ag_st (h : AG A A' fs cs) (c1 : 1 ∉ cs) (c3 : 3 ∉ fs) : q_st A' = q_st A := by
  funext s
  unfold q_st
  rw [ag_nc h c1, ag_pr h c3]
theorem ag_CPc {s : mst} {P : Nat} (h : AG A A' fs cs) (d0 : 0 ∉ cs) (d1 : 1 ∉ cs) (c1 : 1 ∉ fs) (c2 : 2 ∉ fs) (c3 : 3 ∉ fs) (c4 : 4 ∉ fs) (y : CPc s P A) : CPc s P A' := by
  unfold CPc at y ⊢
  rw [ag_nb h d0, ag_nc h d1, ag_fr h c1, ag_tb h c2, ag_pr h c3, ag_ln h c4]
  exact y
theorem ag_CPs {s : mst} {P : Nat} (h : AG A A' fs cs) (d3 : 3 ∉ cs) (c5 : 5 ∉ fs) (c6 : 6 ∉ fs) (c7 : 7 ∉ fs) (d2 : 2 ∉ cs) (y : CPs s P A) : CPs s P A' := by
  unfold CPs at y ⊢
  rw [ag_ns h d3, ag_ok h c5, ag_os h c6, ag_ow h c7, ag_nq h d2]
  exact y
theorem ag_CPt {s : mst} {P : Nat} (h : AG A A' fs cs) (d4 : 4 ∉ cs) (c8 : 8 ∉ fs) (c9 : 9 ∉ fs) (c10 : 10 ∉ fs) (c11 : 11 ∉ fs) (c12 : 12 ∉ fs) (y : CPt s P A) : CPt s P A' := by
  unfold CPt at y ⊢
  rw [ag_nt h d4, ag_tk h c8, ag_tx h c9, ag_tp h c10, ag_tq h c11, ag_td h c12]
  exact y
theorem ag_CPe {s : mst} {P : Nat} (h : AG A A' fs cs) (d5 : 5 ∉ cs) (c13 : 13 ∉ fs) (c14 : 14 ∉ fs) (c15 : 15 ∉ fs) (c16 : 16 ∉ fs) (c17 : 17 ∉ fs) (y : CPe s P A) : CPe s P A' := by
  unfold CPe at y ⊢
  rw [ag_ne h d5, ag_ek h c13, ag_es h c14, ag_ee h c15, ag_ey h c16, ag_ei h c17]
  exact y
theorem ag_CPr {s : mst} {P : Nat} (h : AG A A' fs cs) (d6 : 6 ∉ cs) (c18 : 18 ∉ fs) (c19 : 19 ∉ fs) (c20 : 20 ∉ fs) (y : CPr s P A) : CPr s P A' := by
  unfold CPr at y ⊢
  rw [ag_nr h d6, ag_rt h c18, ag_rw h c19, ag_rv h c20]
  exact y
theorem ag_CPw {s : mst} {P : Nat} (h : AG A A' fs cs) (c21 : 21 ∉ fs) (y : CPw s P A) : CPw s P A' := by
  unfold CPw at y ⊢
  rw [ag_wt h c21]
  exact y
theorem ag_RPc {s : mst} {P : Nat} (h : AG A A' fs cs) (d0 : 0 ∉ cs) (d1 : 1 ∉ cs) (c1 : 1 ∉ fs) (c2 : 2 ∉ fs) (c3 : 3 ∉ fs) (c4 : 4 ∉ fs) (y : RPc s P A) : RPc s P A' := by
  unfold RPc at y ⊢
  rw [ag_nb h d0, ag_nc h d1, ag_fr h c1, ag_tb h c2, ag_pr h c3, ag_ln h c4]
  exact y
theorem ag_RPo {s : mst} {P : Nat} (h : AG A A' fs cs) (d2 : 2 ∉ cs) (d3 : 3 ∉ cs) (c5 : 5 ∉ fs) (c6 : 6 ∉ fs) (c7 : 7 ∉ fs) (y : RPo s P A) : RPo s P A' := by
  unfold RPo at y ⊢
  rw [ag_nq h d2, ag_ns h d3, ag_ok h c5, ag_os h c6, ag_ow h c7]
  exact y
theorem ag_RPt {s : mst} {P : Nat} (h : AG A A' fs cs) (d4 : 4 ∉ cs) (c8 : 8 ∉ fs) (c9 : 9 ∉ fs) (c10 : 10 ∉ fs) (c11 : 11 ∉ fs) (c12 : 12 ∉ fs) (y : RPt s P A) : RPt s P A' := by
  unfold RPt at y ⊢
  rw [ag_nt h d4, ag_tk h c8, ag_tx h c9, ag_tp h c10, ag_tq h c11, ag_td h c12]
  exact y
theorem ag_RPe {s : mst} {P : Nat} (h : AG A A' fs cs) (d5 : 5 ∉ cs) (c13 : 13 ∉ fs) (c14 : 14 ∉ fs) (c15 : 15 ∉ fs) (c16 : 16 ∉ fs) (c17 : 17 ∉ fs) (y : RPe s P A) : RPe s P A' := by
  unfold RPe at y ⊢
  rw [ag_ne h d5, ag_ek h c13, ag_es h c14, ag_ee h c15, ag_ey h c16, ag_ei h c17]
  exact y
theorem ag_RPr {s : mst} {P : Nat} (h : AG A A' fs cs) (d6 : 6 ∉ cs) (c18 : 18 ∉ fs) (c19 : 19 ∉ fs) (c20 : 20 ∉ fs) (y : RPr s P A) : RPr s P A' := by
  unfold RPr at y ⊢
  rw [ag_nr h d6, ag_rt h c18, ag_rw h c19, ag_rv h c20]
  exact y
theorem ag_RPw {s : mst} {P : Nat} (h : AG A A' fs cs) (c21 : 21 ∉ fs) (y : RPw s P A) : RPw s P A' := by
  unfold RPw at y ⊢
  rw [ag_wt h c21]
  exact y
theorem ag_WFx (h : AG A A' fs cs) (d1 : 1 ∉ cs) (c1 : 1 ∉ fs) (c2 : 2 ∉ fs) (d0 : 0 ∉ cs) (c3 : 3 ∉ fs) (c4 : 4 ∉ fs) (y : WFx A) : WFx A' := by
  unfold WFx at y ⊢
  rw [ag_nc h d1, ag_fr h c1, ag_tb h c2, ag_nb h d0, ag_pr h c3, ag_ln h c4]
  exact y
theorem ag_WFd (h : AG A A' fs cs) (d1 : 1 ∉ cs) (c2 : 2 ∉ fs) (y : WFd A) : WFd A' := by
  unfold WFd at y ⊢
  rw [ag_nc h d1, ag_tb h c2]
  exact y
theorem ag_WFo (h : AG A A' fs cs) (d2 : 2 ∉ cs) (d3 : 3 ∉ cs) (c5 : 5 ∉ fs) (c6 : 6 ∉ fs) (c7 : 7 ∉ fs) (c1 : 1 ∉ fs) (c2 : 2 ∉ fs) (d1 : 1 ∉ cs) (c3 : 3 ∉ fs) (y : WFo A) : WFo A' := by
  unfold WFo at y ⊢
  rw [ag_st h d1 c3, ag_nq h d2, ag_ns h d3, ag_ok h c5, ag_os h c6, ag_ow h c7, ag_fr h c1, ag_tb h c2]
  exact y
theorem ag_WFt (h : AG A A' fs cs) (d4 : 4 ∉ cs) (c8 : 8 ∉ fs) (c9 : 9 ∉ fs) (d3 : 3 ∉ cs) (d1 : 1 ∉ cs) (c10 : 10 ∉ fs) (c3 : 3 ∉ fs) (c11 : 11 ∉ fs) (c12 : 12 ∉ fs) (c4 : 4 ∉ fs) (y : WFt A) : WFt A' := by
  unfold WFt at y ⊢
  rw [ag_nt h d4, ag_tk h c8, ag_tx h c9, ag_ns h d3, ag_nc h d1, ag_tp h c10, ag_pr h c3, ag_tq h c11, ag_td h c12, ag_ln h c4]
  exact y
theorem ag_WFe (h : AG A A' fs cs) (d5 : 5 ∉ cs) (c13 : 13 ∉ fs) (c14 : 14 ∉ fs) (c15 : 15 ∉ fs) (c16 : 16 ∉ fs) (d1 : 1 ∉ cs) (c17 : 17 ∉ fs) (c3 : 3 ∉ fs) (y : WFe A) : WFe A' := by
  unfold WFe at y ⊢
  rw [ag_st h d1 c3, ag_ne h d5, ag_ek h c13, ag_es h c14, ag_ee h c15, ag_ey h c16, ag_nc h d1, ag_ei h c17]
  exact y
theorem ag_WFr (h : AG A A' fs cs) (d6 : 6 ∉ cs) (c18 : 18 ∉ fs) (d5 : 5 ∉ cs) (c19 : 19 ∉ fs) (c20 : 20 ∉ fs) (y : WFr A) : WFr A' := by
  unfold WFr at y ⊢
  rw [ag_nr h d6, ag_rt h c18, ag_ne h d5, ag_rw h c19, ag_rv h c20]
  exact y
theorem ag_WFw (h : AG A A' fs cs) (c21 : 21 ∉ fs) (y : WFw A) : WFw A' := by
  unfold WFw at y ⊢
  rw [ag_wt h c21]
  exact y
theorem CPc_e {s s' : mst} {P : Nat} (y : CPc s P A) (e : ∀ k, P + 0 ≤ k → k < P + 4 → s'.1 k = s.1 k) : CPc s' P A := by
  unfold CPc at y ⊢
  rw [e (P) (by omega) (by omega), e (P + 1) (by omega) (by omega), e (P + 1 + 1) (by omega) (by omega), e (P + 3) (by omega) (by omega)]
  exact y
theorem CPs_e {s s' : mst} {P : Nat} (y : CPs s P A) (e : ∀ k, P + 15 ≤ k → k < P + 17 → s'.1 k = s.1 k) : CPs s' P A := by
  unfold CPs at y ⊢
  rw [e (P + 15) (by omega) (by omega), e (P + 15 + 1) (by omega) (by omega)]
  exact y
theorem CPt_e {s s' : mst} {P : Nat} (y : CPt s P A) (e : ∀ k, P + 17 ≤ k → k < P + 19 → s'.1 k = s.1 k) : CPt s' P A := by
  unfold CPt at y ⊢
  rw [e (P + 17) (by omega) (by omega), e (P + 17 + 1) (by omega) (by omega)]
  exact y
theorem CPe_e {s s' : mst} {P : Nat} (y : CPe s P A) (e : ∀ k, P + 19 ≤ k → k < P + 21 → s'.1 k = s.1 k) : CPe s' P A := by
  unfold CPe at y ⊢
  rw [e (P + 19) (by omega) (by omega), e (P + 19 + 1) (by omega) (by omega)]
  exact y
theorem CPr_e {s s' : mst} {P : Nat} (y : CPr s P A) (e : ∀ k, P + 21 ≤ k → k < P + 23 → s'.1 k = s.1 k) : CPr s' P A := by
  unfold CPr at y ⊢
  rw [e (P + 21) (by omega) (by omega), e (P + 21 + 1) (by omega) (by omega)]
  exact y
theorem CPw_e {s s' : mst} {P : Nat} (y : CPw s P A) (e : ∀ k, P + 23 ≤ k → k < P + 24 → s'.1 k = s.1 k) : CPw s' P A := by
  unfold CPw at y ⊢
  rw [e (P + 23) (by omega) (by omega)]
  exact y
theorem CPl_e {s s' : mst} {P : Nat} (y : CPl s P A) (e : ∀ k, P + 4 ≤ k → k < P + 15 → s'.1 k = s.1 k) : CPl s' P A := by
  obtain ⟨y1, y2, y3⟩ := y
  refine ⟨fun x hx => by rw [e (P + 4) (by omega) (by omega)]; exact y1 x hx, ?_, ?_⟩
  · unfold CL at y2 ⊢
    rw [e (P + 5 + 1) (by omega) (by omega), e (P + 5 + 2) (by omega) (by omega), e (P + 5 + 3) (by omega) (by omega), e (P + 5 + 4) (by omega) (by omega)]
    exact y2
  · unfold CL at y3 ⊢
    rw [e (P + 10 + 1) (by omega) (by omega), e (P + 10 + 2) (by omega) (by omega), e (P + 10 + 3) (by omega) (by omega), e (P + 10 + 4) (by omega) (by omega)]
    exact y3
theorem RPc_e {s s' : mst} {t : Nat} (y : RPc s t A) (e : ∀ k, k ∈ [87, 88, 89, 90, 91, 92] → s'.1 k = s.1 k) : RPc s' t A := by
  unfold RPc at y ⊢
  rw [e 87 (by decide), e 88 (by decide), e 89 (by decide), e 90 (by decide), e 91 (by decide), e 92 (by decide)]
  exact y
theorem RPo_e {s s' : mst} {t : Nat} (y : RPo s t A) (e : ∀ k, k ∈ [93, 94, 95, 96, 97, 98, 99] → s'.1 k = s.1 k) : RPo s' t A := by
  unfold RPo at y ⊢
  rw [e 93 (by decide), e 94 (by decide), e 95 (by decide), e 96 (by decide), e 97 (by decide), e 98 (by decide), e 99 (by decide)]
  exact y
theorem RPt_e {s s' : mst} {t : Nat} (y : RPt s t A) (e : ∀ k, k ∈ [100, 101, 102, 103, 104, 105] → s'.1 k = s.1 k) : RPt s' t A := by
  unfold RPt at y ⊢
  rw [e 100 (by decide), e 101 (by decide), e 102 (by decide), e 103 (by decide), e 104 (by decide), e 105 (by decide)]
  exact y
theorem RPe_e {s s' : mst} {t : Nat} (y : RPe s t A) (e : ∀ k, k ∈ [111, 112, 113, 114, 115, 116, 117] → s'.1 k = s.1 k) : RPe s' t A := by
  unfold RPe at y ⊢
  rw [e 111 (by decide), e 112 (by decide), e 113 (by decide), e 114 (by decide), e 115 (by decide), e 116 (by decide), e 117 (by decide)]
  exact y
theorem RPr_e {s s' : mst} {t : Nat} (y : RPr s t A) (e : ∀ k, k ∈ [118, 119, 120, 121] → s'.1 k = s.1 k) : RPr s' t A := by
  unfold RPr at y ⊢
  rw [e 118 (by decide), e 119 (by decide), e 120 (by decide), e 121 (by decide)]
  exact y
theorem RPw_e {s s' : mst} {t : Nat} (y : RPw s t A) (e : ∀ k, k ∈ [125] → s'.1 k = s.1 k) : RPw s' t A := by
  unfold RPw at y ⊢
  rw [e 125 (by decide)]
  exact y
/-- in the WORLD where nothing is so all slips are done -/
theorem lw0 {A : AP} : ∀ i, q_lw A 0 i = q_ly A (q_nq A + i) := by
  intro i
  induction i with
  | zero => rfl
  | succ i ih =>
    have hn : ¬ q_und A 0 i := fun ⟨k, _, hk, _⟩ => so_0 hk
    simp only [q_lw]
    rw [if_neg hn, ih]
    rfl
theorem ly_c {A A' : AP} : ∀ k, (∀ i, i < k → q_ok A' i = q_ok A i ∧ q_os A' i = q_os A i ∧ q_ow A' i = q_ow A i) → q_ly A' k = q_ly A k := by
  intro k
  induction k with
  | zero => intro _; rfl
  | succ k ih =>
    intro h
    obtain ⟨a, b, c⟩ := h k (by omega)
    simp only [q_ly]
    rw [ih (fun i hi => h i (by omega))]
    unfold q_op
    rw [a, b, c]
theorem ag_f0 (h : AG A A' fs cs) (c1 : 1 ∉ fs) (c3 : 3 ∉ fs) : q_f0 A' = q_f0 A := by
  funext c
  induction c with
  | zero => rfl
  | succ c ih =>
    simp only [q_f0]
    rw [ih, ag_fr h c1, ag_pr h c3]
theorem ag_CPl {s : mst} {P : Nat} (h : AG A A' fs cs) (c1 : 1 ∉ fs) (c3 : 3 ∉ fs) (c5 : 5 ∉ fs) (c6 : 6 ∉ fs) (c7 : 7 ∉ fs) (d1 : 1 ∉ cs) (d2 : 2 ∉ cs) (d3 : 3 ∉ cs) (y : CPl s P A) : CPl s P A' := by
  have hl : ∀ k, q_ly A' k = q_ly A k := fun k => ly_c k (fun i _ => by rw [ag_ok h c5, ag_os h c6, ag_ow h c7]; exact ⟨rfl, rfl, rfl⟩)
  unfold CPl at y ⊢
  rw [lw0, hl, hl, ag_f0 h c1 c3, ag_nc h d1, ag_nq h d2, ag_ns h d3, ← lw0]
  exact y
end AGS
