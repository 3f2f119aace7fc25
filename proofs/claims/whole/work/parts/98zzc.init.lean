/-! ===== the constructors ===== -/
section INI
variable {h0 : Nat → pm_C} {B : Nat} {D D0 : Nat → pd} {hi hi' z z' : Nat} {s s0 : mst} {N n m j t ci q : Nat} {fl : List (Nat × Nat)} {M M' Mc : List pd} {ty : FieldType} {v : Int32}
/-- from n on the cells are M, below all is as it was -/
def ST (D0 : Nat → pd) (s0 : mst) (n : Nat) (M : List pd) (D : Nat → pd) (hi : Nat) (s : mst) : Prop := hi = n + M.length ∧ (∀ i, i < M.length → M[i]? = some (D (n + i))) ∧ ∀ k, k < n → D k = D0 k ∧ s.1 k = s0.1 k
theorem ST_s {s' : mst} (h : ST D0 s0 n M D hi s) (hs : ∀ k, k < n → s'.1 k = s.1 k) : ST D0 s0 n M D hi s' := ⟨h.1, h.2.1, fun k hk => ⟨(h.2.2 k hk).1, (hs k hk).trans (h.2.2 k hk).2⟩⟩
theorem ST_ap {d : pd} (h : ST D0 s0 n M D hi s) : ST D0 s0 n (M ++ [d]) (upD D hi d) (hi + 1) s := by
  obtain ⟨h1, h2, h3⟩ := h
  refine ⟨by rw [List.length_append, h1]; rfl, fun i hi' => ?_, fun k hk => ⟨?_, (h3 k hk).2⟩⟩
  · by_cases c : i < M.length
    · rw [List.getElem?_append_left c, upD_n (by omega)]; exact h2 i c
    · have : i = M.length := by rw [List.length_append] at hi'; simp only [List.length_cons, List.length_nil] at hi'; omega
      subst this
      rw [List.getElem?_append_right (Nat.le_refl _), Nat.sub_self, h1, upD_s]
      rfl
  · rw [upD_n (by omega)]; exact (h3 k hk).1
theorem ST_set {d : pd} (h : ST D0 s0 n M D hi s) : ST D0 s0 n (M.set 0 d) (upD D n d) hi s := by
  obtain ⟨h1, h2, h3⟩ := h
  refine ⟨by rw [List.length_set]; exact h1, fun i hi' => ?_, fun k hk => ⟨?_, (h3 k hk).2⟩⟩
  · rw [List.length_set] at hi'
    rw [List.getElem?_set]
    by_cases c : 0 = i
    · subst c
      rw [if_pos rfl, if_pos hi', Nat.add_zero, upD_s]
    · rw [if_neg c, upD_n (by omega)]; exact h2 i hi'
  · rw [upD_n (by omega)]; exact (h3 k hk).1
theorem ST_cat {D' : Nat → pd} {s' : mst} (h : ST D0 s0 n M D hi s) (h' : ST D s hi Mc D' hi' s') : ST D0 s0 n (M ++ Mc) D' hi' s' := by
  obtain ⟨h1, h2, h3⟩ := h
  obtain ⟨g1, g2, g3⟩ := h'
  refine ⟨by rw [List.length_append]; omega, fun i hi' => ?_, fun k hk => ⟨?_, ?_⟩⟩
  · by_cases c : i < M.length
    · rw [List.getElem?_append_left c, (g3 (n + i) (by omega)).1]; exact h2 i c
    · rw [List.length_append] at hi'
      have e := g2 (i - M.length) (by omega)
      rw [List.getElem?_append_right (by omega), e]
      congr 2
      omega
  · rw [(g3 k (by omega)).1]; exact (h3 k hk).1
  · rw [(g3 k (by omega)).2]; exact (h3 k hk).2
theorem ST_D {d : pd} (h : ST D0 s0 n M D hi s) (hM : M[0]? = some d) : D n = d ∧ n < hi := by
  have hl := (List.getElem?_eq_some_iff.mp hM).1
  have e := h.2.1 0 hl
  rw [hM] at e
  exact ⟨(Option.some.inj e).symm, by have := h.1; omega⟩
theorem nL_ar (hn : n ≤ 65536) : nA (mkM h0 B D hi z s) 1 (nI n) = some (B + hi, mkM h0 B (upD D hi (.inl (1, n))) (hi + 1) (z + n) (s.1, up1 s.2 hi (fun _ => 0))) := by
  have e1 : (nI n).toNatClampNeg = n := nI_clamp (by omega)
  unfold nA
  rw [e1, decide_eq_true (nI_pos (show n < 2 ^ 31 by omega)), decide_eq_true hn]
  have hc : pm_zero 1 n = tC B (.inl (1, n)) (s.1 hi) (fun _ => 0) := rfl
  have := mk_al (h0 := h0) (B := B) (D := D) (hi := hi) (z := z) (s := s) (d := .inl (1, n)) (f := s.1 hi) (g := fun _ => 0) (c := pm_zero 1 n) (m := n) hc
  rw [up1_self] at this
  show some (B + hi, pm_al (mkM h0 B D hi z s) n (pm_zero 1 n)) = _
  rw [this]
/-- an array into a field of the object that is made -/
theorem sa_ar (h : ST D0 s0 n M D hi s) (hM : M[0]? = some (.inr (ci, fl))) (ht : t = 0 ∨ t = 2 ∨ t = 3) (hv : v = nI m) (hm : m ≤ 65536) (hj : j < fl.length) (hf : ∀ q, pm_fit ty (.ref q) = true) (eM : (M ++ [(.inl (t, m) : pd)]).set 0 (.inr (ci, fl.set j (1, hi))) = M') (eh : hi + 1 = hi') (ez : z + m = z') : ∃ D' s', (∀ cont : pm_S → Option pm_S, ((nA (mkM h0 B D hi z s) t v).bind fun (q2, S3) => (wF S3 (B + n) ci j ty (.ref q2)).bind cont) = cont (mkM h0 B D' hi' z' s')) ∧ ST D0 s0 n M' D' hi' s' ∧ (∀ k, k ≠ hi → s'.1 k = s.1 k) ∧ ∀ i, s'.1 hi i = 0 := by
  subst hv eM eh ez
  obtain ⟨d1, d2⟩ := ST_D h hM
  refine ⟨_, _, fun cont => st_ar ht hm d2 d1 hj hf, ?_, fun k hk => up1_ne hk, fun i => ?_⟩
  · exact ST_s (ST_set (ST_ap h)) (fun k hk => up1_ne (by omega))
  · show up1 s.1 hi (fun _ => 0) hi i = 0
    unfold up1
    rw [if_pos rfl]
theorem sa_aq (h : ST D0 s0 n M D hi s) (hM : M[0]? = some (.inr (ci, fl))) (ht : t = 4 ∨ t = 5) (hv : v = nI m) (hm : m ≤ 65536) (hj : j < fl.length) (hf : ∀ q, pm_fit ty (.ref q) = true) (eM : (M ++ [(.inl (t, m) : pd)]).set 0 (.inr (ci, fl.set j (1, hi))) = M') (eh : hi + 1 = hi') (ez : z + m = z') : ∃ D' s', (∀ cont : pm_S → Option pm_S, ((nA (mkM h0 B D hi z s) t v).bind fun (q2, S3) => (wF S3 (B + n) ci j ty (.ref q2)).bind cont) = cont (mkM h0 B D' hi' z' s')) ∧ ST D0 s0 n M' D' hi' s' ∧ (∀ k, k ≠ hi → s'.1 k = s.1 k) := by
  subst hv eM eh ez
  obtain ⟨d1, d2⟩ := ST_D h hM
  refine ⟨_, _, fun cont => st_aq ht hm d2 d1 hj hf, ?_, fun k hk => up1_ne hk⟩
  exact ST_s (ST_set (ST_ap h)) (fun k hk => up1_ne (by omega))
theorem sa_lg (h : ST D0 s0 n M D hi s) (hM : M[0]? = some (.inr (ci, fl))) (hv : v = nI m) (hm : m ≤ 65536) (hj : j < fl.length) (hf : ∀ q, pm_fit ty (.ref q) = true) (eM : (M ++ [(.inl (1, m) : pd)]).set 0 (.inr (ci, fl.set j (1, hi))) = M') (eh : hi + 1 = hi') (ez : z + m = z') : ∃ D' s', (∀ cont : pm_S → Option pm_S, ((nA (mkM h0 B D hi z s) 1 v).bind fun (q2, S3) => (wF S3 (B + n) ci j ty (.ref q2)).bind cont) = cont (mkM h0 B D' hi' z' s')) ∧ ST D0 s0 n M' D' hi' s' ∧ (∀ k, s'.1 k = s.1 k) := by
  subst hv eM eh ez
  obtain ⟨d1, d2⟩ := ST_D h hM
  refine ⟨upD (upD D hi (.inl (1, m))) n (.inr (ci, fl.set j (1, hi))), (s.1, up1 s.2 hi (fun _ => 0)), fun cont => ?_, ST_s (ST_set (ST_ap h)) ?_, ?_⟩
  · rw [nL_ar hm, Option.bind_some]
    dsimp only
    rw [wN_mk (by omega) (by rw [upD_n (by omega)]; exact d1) hj (hf _), Option.bind_some]
  · exact fun k hk => rfl
  · exact fun k => rfl
/-- an int into a field -/
theorem sa_i (h : ST D0 s0 n M D hi s) (hM : M[0]? = some (.inr (ci, fl))) {w : Nat} (hj : fl[j]? = some (0, w)) : ∃ s', wF (mkM h0 B D hi z s) (B + n) ci j .int (.int v) = some (mkM h0 B D hi z (s')) ∧ ST D0 s0 n M D hi s' ∧ (∀ k, k ≠ n → s'.1 k = s.1 k) ∧ ∀ i, s'.1 n i = if i = j then v else s.1 n i := by
  obtain ⟨d1, d2⟩ := ST_D h hM
  exact ⟨wr1 s n j v, wI_mk d2 d1 hj, ST_s h (fun k hk => wr1_ne (by omega)), fun k hk => wr1_ne hk, fun i => wr1_at⟩
/-- a reference into a field that may change -/
theorem sa_d (h : ST D0 s0 n M D hi s) (hM : M[0]? = some (.inr (ci, fl))) {w : Nat} (hj : fl[j]? = some (2, w)) (hq : q < 2 ^ 31) {C : String} : ∃ s', wF (mkM h0 B D hi z s) (B + n) ci j (.object C) (.ref (B + q)) = some (mkM h0 B D hi z (s')) ∧ ST D0 s0 n M D hi s' ∧ (∀ k, k ≠ n → s'.1 k = s.1 k) ∧ ∀ i, s'.1 n i = if i = j then nI q else s.1 n i := by
  obtain ⟨d1, d2⟩ := ST_D h hM
  exact ⟨wr1 s n j (nI q), wD_mk d2 d1 hj hq, ST_s h (fun k hk => wr1_ne (by omega)), fun k hk => wr1_ne hk, fun i => wr1_at⟩
theorem sa_u (h : ST D0 s0 n M D hi s) (hM : M[0]? = some (.inr (ci, fl))) {w : Nat} (hj : fl[j]? = some (2, w)) {C : String} : ∃ s', wF (mkM h0 B D hi z s) (B + n) ci j (.object C) .null = some (mkM h0 B D hi z (s')) ∧ ST D0 s0 n M D hi s' ∧ (∀ k, k ≠ n → s'.1 k = s.1 k) ∧ ∀ i, s'.1 n i = if i = j then -1 else s.1 n i := by
  obtain ⟨d1, d2⟩ := ST_D h hM
  refine ⟨wr1 s n j (-1), ?_, ST_s h (fun k hk => wr1_ne (by omega)), fun k hk => wr1_ne hk, fun i => wr1_at⟩
  have hl := (List.getElem?_eq_some_iff.mp hj).1
  show wF (mkS h0 B D s.1 s.2 hi z) (B + n) ci j (.object C) .null = _
  rw [wF_c (mk_cO d2 d1) rfl (by simpa using hl)]
  have e1 : (fl.mapIdx (fun j s2 => fv B (s.1 n) j s2)).set j .null = fl.mapIdx (fun r s2 => fv B (upd (s.1 n) j (-1)) r s2) := by
    have := fv_set (B := B) (x := s.1 n) (w := -1) hj
    rw [fv_n (by rw [upd_g, if_pos rfl])] at this
    exact this
  rw [e1, mk_wr (x := upd (s.1 n) j (-1)) (y := s.2 n) (by rw [d1]; rfl), up1_self]
  rfl
/-- a reference into a field that will keep it -/
theorem sa_n (h : ST D0 s0 n M D hi s) (hM : M[0]? = some (.inr (ci, fl))) (hj : j < fl.length) (hf : pm_fit ty (.ref (B + q)) = true) (eM : M.set 0 (.inr (ci, fl.set j (1, q))) = M') : ∃ D', wF (mkM h0 B D hi z s) (B + n) ci j ty (.ref (B + q)) = some (mkM h0 B D' hi z s) ∧ ST D0 s0 n M' D' hi s := by
  subst eM
  obtain ⟨d1, d2⟩ := ST_D h hM
  exact ⟨_, wN_mk d2 d1 hj hf, ST_set h⟩
/-- an object begins -/
theorem ST_new {d : pd} {f : Nat → Int32} : ST D s hi [d] (upD D hi d) (hi + 1) (up1 s.1 hi f, s.2) := ⟨rfl, fun i hi' => by
    have : i = 0 := by simp only [List.length_cons, List.length_nil] at hi'; omega
    subst this
    rw [Nat.add_zero, upD_s]
    rfl, fun k hk => ⟨upD_n (by omega), up1_ne (by omega)⟩⟩
theorem ST_m (h : ST D0 s0 n M D hi s) (e : M = M') (eh : hi = hi') : ST D0 s0 n M' D hi' s := by
  subst e eh
  exact h
theorem rcv_st (h : ST D0 s0 n M D hi s) (hM : M[0]? = some (.inr (ci, fl))) : rcv (mkM h0 B D hi z s) (B + n) ci = true := rcv_mk (ST_D h hM).2 (ST_D h hM).1
theorem my_st (h : ST D0 s0 n M D hi s) (hM : M[0]? = some (.inr (ci, fl))) : pm_my (mkM h0 B D hi z s) (B + n) = true := mk_my (ST_D h hM).2
end INI
