/-! ===== feed, end ===== -/
abbrev TT : Type := Nat × (Nat → Nat)
def nz (v : Nat) : Nat := if v = 0 then 0 else 1
def ap1 (p : TT) (v : Nat) : TT := if v = 0 then p else (p.1 + 1, updN p.2 p.1 v)
def apX (p : TT) (x : Int32) : TT := ap1 (ap1 (ap1 (ap1 p (bq x 24)) (bq x 16)) (bq x 8)) (bq x 0)
def cB (x : Int32) : Nat := nz (bq x 24) + nz (bq x 16) + nz (bq x 8) + nz (bq x 0)
theorem ap1_l {p : TT} {v : Nat} : (ap1 p v).1 = p.1 + nz v := by
  unfold ap1 nz
  split <;> rfl
theorem apX_l {p : TT} {x : Int32} : (apX p x).1 = p.1 + cB x := by
  unfold apX cB
  rw [ap1_l, ap1_l, ap1_l, ap1_l]
  omega
def TPc (s : mst) (p : TT) : Prop := s.1 1 1 = nI p.1 ∧ ∀ i, i < p.1 → p.2 i < 256 ∧ s.1 2 i = nI (p.2 i)
def TPr (s : mst) (p : TT) : Prop := s.1 85 2 = nI p.1 ∧ ∀ i, i < p.1 → s.1 86 i &&& 255 = nI (p.2 i)
theorem TP_cr {s : mst} {p : TT} (hl : p.1 ≤ 300) (h : TPc s p) (h' : TPr s p) : TP s p.1 p.2 := ⟨hl, h.1, h'.1, fun i hi => ⟨(h.2 i hi).1, (h.2 i hi).2, h'.2 i hi⟩⟩
theorem stB_nI {s : mst} {k n j : Nat} {x : Int32} (h : j < n) (hn : n < 2 ^ 31) : stA 2 s k n (nI j) x = some (wr1 s k j (pm_nar 2 x)) := by
  unfold stA wr1
  rw [if_pos (pmin h hn), nI_clamp (by omega)]
section FED
variable {N f k c : Nat} {s : mst} {p : TT} {x : Int32}
theorem TPc_ap {s' : mst} {v : Nat} (h : TPc s p) (hv : v < 256) (h0 : v = 0 → s' = s) (h1 : v ≠ 0 → s' = wr1 (wr1 s 2 p.1 (nI v)) 1 1 (nI (p.1 + 1))) : TPc s' (ap1 p v) := by
  unfold ap1
  by_cases c : v = 0
  · rw [if_pos c, h0 c]
    exact h
  · rw [if_neg c, h1 c]
    refine ⟨by rw [wr1_at, if_pos rfl], fun i hi => ?_⟩
    rw [wr1_ne (by decide), wr1_at]
    dsimp only at hi ⊢
    by_cases e : i = p.1
    · rw [if_pos e, e, updN_s]
      exact ⟨hv, rfl⟩
    · rw [if_neg e, updN_n e]
      exact h.2 i (by omega)
theorem TPr_ap {s' : mst} {v : Nat} {y : Int32} (h : TPr s p) (hy : y &&& 255 = nI v) (h0 : v = 0 → s' = s) (h1 : v ≠ 0 → s' = wr1 (wr1 s 86 p.1 y) 85 2 (nI (p.1 + 1))) : TPr s' (ap1 p v) := by
  unfold ap1
  by_cases c : v = 0
  · rw [if_pos c, h0 c]
    exact h
  · rw [if_neg c, h1 c]
    refine ⟨by rw [wr1_at, if_pos rfl], fun i hi => ?_⟩
    rw [wr1_ne (by decide), wr1_at]
    dsimp only at hi ⊢
    by_cases e : i = p.1
    · rw [if_pos e, e, updN_s]
      exact hy
    · rw [if_neg e, updN_n e]
      exact h.2 i (by omega)
theorem g_take1 (hk : k ≤ 24) (h : TPc s p) (hl : p.1 + nz (bq x k) ≤ 300) : ∃ s', G_Tape_take_3 N x (f + 1) (nI k) s = G_Tape_take_3 N x f (nI k + (-8)) s' ∧ Fm (fun q => q = 1 ∨ q = 2) s s' ∧ TPc s' (ap1 p (bq x k)) := by
  have hun : G_Tape_take_3 N x (f + 1) (nI k) s = GB_Tape_take_3 N (G_Tape_take_3 N x f) x (nI k) s := rfl
  have hb := bq_lt (x := x) (k := k)
  rw [hun]
  unfold GB_Tape_take_3 G_Tape_take_53
  rw [if_neg (nI_pos (by omega)), by_c hk, h.1]
  by_cases c : bq x k = 0
  · rw [c, if_pos nI_0]
    refine ⟨s, rfl, Fm_r, ?_⟩
    unfold ap1
    rw [if_pos rfl]
    exact h
  · have hl2 : p.1 + 1 ≤ 300 := by unfold nz at hl; rw [if_neg c] at hl; exact hl
    rw [if_neg (nI_ne0 (by omega) (by omega)), L_300, if_neg (nI_ge (by omega) (by decide)), vsI_ws, ws_nI (by omega) (by decide), wrI_1, wr1_ne (by decide), h.1, nI_1]
    exact ⟨_, rfl, Fm_t (Fm_w (Or.inr rfl)) (Fm_w (Or.inl rfl)), TPc_ap h hb (fun e => absurd e c) (fun _ => rfl)⟩
theorem g_take (hN : 10 ≤ N) (h : TPc s p) (hl : p.1 + cB x ≤ 300) : ∃ s', G_Tape_take N s x = some s' ∧ Fm (fun q => q = 1 ∨ q = 2) s s' ∧ TPc s' (apX p x) := by
  obtain ⟨f, hf⟩ : ∃ f, N = f + 1 + 1 + 1 + 1 + 1 := ⟨N - 5, by omega⟩
  unfold cB at hl
  have e0 : G_Tape_take N s x = G_Tape_take_3 N x (f + 1 + 1 + 1 + 1 + 1) (nI 24) s := congrFun (congrFun (congrArg (G_Tape_take_3 N x) hf) _) _
  obtain ⟨s1, e1, m1, h1⟩ := g_take1 (N := N) (f := f + 1 + 1 + 1 + 1) (x := x) (k := 24) (by omega) h (by omega)
  have l1 := ap1_l (p := p) (v := bq x 24)
  obtain ⟨s2, e2, m2, h2⟩ := g_take1 (N := N) (f := f + 1 + 1 + 1) (x := x) (k := 16) (by omega) h1 (by omega)
  have l2 := ap1_l (p := ap1 p (bq x 24)) (v := bq x 16)
  obtain ⟨s3, e3, m3, h3⟩ := g_take1 (N := N) (f := f + 1 + 1) (x := x) (k := 8) (by omega) h2 (by omega)
  have l3 := ap1_l (p := ap1 (ap1 p (bq x 24)) (bq x 16)) (v := bq x 8)
  obtain ⟨s4, e4, m4, h4⟩ := g_take1 (N := N) (f := f + 1) (x := x) (k := 0) (by omega) h3 (by omega)
  rw [show nI 24 + (-8) = nI 16 from by decide] at e1
  rw [show nI 16 + (-8) = nI 8 from by decide] at e2
  rw [show nI 8 + (-8) = nI 0 from by decide] at e3
  refine ⟨s4, ?_, Fm_t m1 (Fm_t m2 (Fm_t m3 m4)), h4⟩
  rw [e0, e1, e2, e3, e4]
  show GB_Tape_take_3 N (G_Tape_take_3 N x f) x (nI 0 + (-8)) s4 = _
  unfold GB_Tape_take_3 G_Tape_take_59
  rw [if_pos (by decide)]
theorem r_put1 (hk : k ≤ 24) (h : TPr s p) (hl : p.1 + nz (bq x k) ≤ 300) : ∃ s', G_M_put_3 N x (f + 1) (nI k) s = G_M_put_3 N x f (nI k + (-8)) s' ∧ Md [86] [2] s s' ∧ TPr s' (ap1 p (bq x k)) := by
  have hun : G_M_put_3 N x (f + 1) (nI k) s = GB_M_put_3 N (G_M_put_3 N x f) x (nI k) s := rfl
  have hb := bq_lt (x := x) (k := k)
  rw [hun]
  unfold GB_M_put_3 G_M_put_43
  rw [if_neg (nI_pos (by omega)), by_r hk, h.1]
  by_cases c : bq x k = 0
  · rw [c, if_pos nI_0]
    refine ⟨s, rfl, Md_r, ?_⟩
    unfold ap1
    rw [if_pos rfl]
    exact h
  · have hl2 : p.1 + 1 ≤ 300 := by unfold nz at hl; rw [if_neg c] at hl; exact hl
    rw [if_neg (nI_ne0 (by omega) (by omega)), stB_nI (by omega) (by decide), Option.bind_some, wrI_1, wr1_ne (by decide), h.1, nI_1]
    exact ⟨_, rfl, Md_t (Md_w (by decide) (by decide)) (Md_f (by decide)), TPr_ap h (by_s hk) (fun e => absurd e c) (fun _ => rfl)⟩
theorem r_put (hN : 10 ≤ N) (h : TPr s p) (hl : p.1 + cB x ≤ 300) : ∃ s', G_M_put N s x = some s' ∧ Md [86] [2] s s' ∧ TPr s' (apX p x) := by
  obtain ⟨f, hf⟩ : ∃ f, N = f + 1 + 1 + 1 + 1 + 1 := ⟨N - 5, by omega⟩
  unfold cB at hl
  have e0 : G_M_put N s x = G_M_put_3 N x (f + 1 + 1 + 1 + 1 + 1) (nI 24) s := congrFun (congrFun (congrArg (G_M_put_3 N x) hf) _) _
  obtain ⟨s1, e1, m1, h1⟩ := r_put1 (N := N) (f := f + 1 + 1 + 1 + 1) (x := x) (k := 24) (by omega) h (by omega)
  have l1 := ap1_l (p := p) (v := bq x 24)
  obtain ⟨s2, e2, m2, h2⟩ := r_put1 (N := N) (f := f + 1 + 1 + 1) (x := x) (k := 16) (by omega) h1 (by omega)
  have l2 := ap1_l (p := ap1 p (bq x 24)) (v := bq x 16)
  obtain ⟨s3, e3, m3, h3⟩ := r_put1 (N := N) (f := f + 1 + 1) (x := x) (k := 8) (by omega) h2 (by omega)
  have l3 := ap1_l (p := ap1 (ap1 p (bq x 24)) (bq x 16)) (v := bq x 8)
  obtain ⟨s4, e4, m4, h4⟩ := r_put1 (N := N) (f := f + 1) (x := x) (k := 0) (by omega) h3 (by omega)
  rw [show nI 24 + (-8) = nI 16 from by decide] at e1
  rw [show nI 16 + (-8) = nI 8 from by decide] at e2
  rw [show nI 8 + (-8) = nI 0 from by decide] at e3
  refine ⟨s4, ?_, Md_t m1 (Md_t m2 (Md_t m3 m4)), h4⟩
  rw [e0, e1, e2, e3, e4]
  show GB_M_put_3 N (G_M_put_3 N x f) x (nI 0 + (-8)) s4 = _
  unfold GB_M_put_3 G_M_put_49
  rw [if_pos (by decide)]
theorem g_bytes1 (hk : k ≤ 24) : G_BP_bytesIn_5 N x (f + 1) (nI c) (nI k) s = G_BP_bytesIn_5 N x f (nI (c + nz (bq x k))) (nI k + (-8)) s := by
  have hun : G_BP_bytesIn_5 N x (f + 1) (nI c) (nI k) s = GB_BP_bytesIn_5 N (G_BP_bytesIn_5 N x f) x (nI c) (nI k) s := rfl
  have hb := bq_lt (x := x) (k := k)
  rw [hun]
  unfold GB_BP_bytesIn_5 G_BP_bytesIn_22 nz
  rw [if_neg (nI_pos (by omega)), by_c hk]
  by_cases c : bq x k = 0
  · rw [c, if_pos nI_0, if_pos rfl]
    rfl
  · rw [if_neg (nI_ne0 (by omega) (by omega)), if_neg c, nI_1]
theorem g_bytes (hN : 10 ≤ N) : G_BP_bytesIn N s x = some (nI (cB x), s) := by
  obtain ⟨f, hf⟩ : ∃ f, N = f + 1 + 1 + 1 + 1 + 1 := ⟨N - 5, by omega⟩
  have e0 : G_BP_bytesIn N s x = G_BP_bytesIn_5 N x (f + 1 + 1 + 1 + 1 + 1) (nI 0) (nI 24) s := congrFun (congrFun (congrFun (congrArg (G_BP_bytesIn_5 N x) hf) _) _) _
  rw [e0, g_bytes1 (by omega), show nI 24 + (-8) = nI 16 from by decide, g_bytes1 (by omega), show nI 16 + (-8) = nI 8 from by decide, g_bytes1 (by omega), show nI 8 + (-8) = nI 0 from by decide, g_bytes1 (by omega)]
  show GB_BP_bytesIn_5 N (G_BP_bytesIn_5 N x f) x _ (nI 0 + (-8)) s = _
  unfold GB_BP_bytesIn_5 G_BP_bytesIn_28 cB
  rw [if_pos (by decide), Nat.zero_add]
theorem r_bytes1 (hk : k ≤ 24) : G_M_bytesIn_5 N x (f + 1) (nI c) (nI k) s = G_M_bytesIn_5 N x f (nI (c + nz (bq x k))) (nI k + (-8)) s := by
  have hun : G_M_bytesIn_5 N x (f + 1) (nI c) (nI k) s = GB_M_bytesIn_5 N (G_M_bytesIn_5 N x f) x (nI c) (nI k) s := rfl
  have hb := bq_lt (x := x) (k := k)
  rw [hun]
  unfold GB_M_bytesIn_5 G_M_bytesIn_25 nz
  rw [if_neg (nI_pos (by omega)), by_r hk]
  by_cases c : bq x k = 0
  · rw [c, if_pos nI_0, if_pos rfl, L_0, nI_add]
  · rw [if_neg (nI_ne0 (by omega) (by omega)), if_neg c, nI_1]
theorem r_bytes (hN : 10 ≤ N) : G_M_bytesIn N s x = some (nI (cB x), s) := by
  obtain ⟨f, hf⟩ : ∃ f, N = f + 1 + 1 + 1 + 1 + 1 := ⟨N - 5, by omega⟩
  have e0 : G_M_bytesIn N s x = G_M_bytesIn_5 N x (f + 1 + 1 + 1 + 1 + 1) (nI 0) (nI 24) s := congrFun (congrFun (congrFun (congrArg (G_M_bytesIn_5 N x) hf) _) _) _
  rw [e0, r_bytes1 (by omega), show nI 24 + (-8) = nI 16 from by decide, r_bytes1 (by omega), show nI 16 + (-8) = nI 8 from by decide, r_bytes1 (by omega), show nI 8 + (-8) = nI 0 from by decide, r_bytes1 (by omega)]
  show GB_M_bytesIn_5 N (G_M_bytesIn_5 N x f) x _ (nI 0 + (-8)) s = _
  unfold GB_M_bytesIn_5 G_M_bytesIn_33 cB
  rw [if_pos (by decide), Nat.zero_add]
theorem cB_le : cB x ≤ 4 := by
  have : ∀ v, nz v ≤ 1 := by intro v; unfold nz; split <;> omega
  unfold cB
  have a := this (bq x 24)
  have b := this (bq x 16)
  have c := this (bq x 8)
  have d := this (bq x 0)
  omega
end FED
section IAT
variable {h0 : Nat → pm_C} {B : Nat} {D : Nat → pd} {hi z : Nat} {s : mst} {N np : Nat} {As : Nat → AP} {Ps ow : Nat → Nat} {P L L' : Nat} {bt bt' : Nat → Nat} {eb : Nat}
/-- the TAPE alone changes -/
theorem IA_tape {s3 : mst} (h : IA eb D hi z ow s np As Ps P L bt) (hC : ∀ k, k ≠ 1 → k ≠ 2 → k ≠ 3 → k ≠ 86 → k ≠ 85 → s3.1 k = s.1 k) (h19 : s3.1 85 19 = s.1 85 19) (hT : TP s3 L' bt') : IA eb D hi z ow s3 np As Ps P L' bt' := by
  obtain ⟨i1, i2, i3, i4⟩ := h
  obtain ⟨h1, h2', h3, h4, h5, h6, h7, h8, h9⟩ := i1
  have hpl : ∀ t', t' < np → PLN D hi ow s3 t' (Ps t') (As t') := by
    intro t' ht'
    obtain ⟨a1, a2, a3, a4, a5, a6, a7, a8, a9⟩ := h9 t' ht'
    refine ⟨a1, a2, a3, a4, a5, CP_eq a6 (fun k k1 k2 => hC k (by omega) (by omega) (by omega) (by omega) (by omega)), SH_keep3 a7 a2 a1 (fun k k0 k1 k2 => hC k ?_ ?_ ?_ ?_ ?_), RP_eq a8 (fun q hq => ?_), by rw [hC 4 (by omega) (by omega) (by omega) (by omega) (by omega)]; exact a9⟩
    · intro e; have := h2' k (by omega); omega
    · intro e; have := h2' k (by omega); omega
    · intro e; have := h2' k (by omega); omega
    · intro e; have := h3 k (by omega) (by omega); omega
    · intro e; have := h3 k (by omega) (by omega); omega
    · have hp1 : ∀ k, k ∈ pers → 86 < k := by decide
      have := hp1 q hq
      exact hC q (by omega) (by omega) (by omega) (by omega) (by omega)
  obtain ⟨d1, d2, d3, d4, d5, d6⟩ := i2
  refine ⟨⟨h1, h2', h3, fun v hv => by rw [hC 53 (by omega) (by omega) (by omega) (by omega) (by omega)]; exact h4 v hv, h5, by rw [h19]; exact h6, by rw [hC 0 (by omega) (by omega) (by omega) (by omega) (by omega)]; exact h7, h8, hpl⟩, ⟨d1, d2, d3, d4, by rw [hC 0 (by omega) (by omega) (by omega) (by omega) (by omega)]; exact d5, DRs_eq d6 (fun k k1 k2 => hC k (by omega) (by omega) (by omega) (by omega) (by omega))⟩, hT, ?_⟩
  unfold RM at i4 ⊢
  rw [nuS_eq (s := s) np (fun t' ht' => hC _ (by have := (h9 t' ht').2.2.1; omega) (by have := (h9 t' ht').2.2.1; omega) (by have := (h9 t' ht').2.2.1; omega) (by have := (h9 t' ht').2.2.1; omega) (by have := (h9 t' ht').2.2.1; omega))]
  exact i4
theorem st_end {p : Int32} : STP eb h0 B (fun S => F_BP_end N S (B + 0) p) (fun s => G_M_end N s p) := by
  intro D hi z s ⟨ow, np, As, Ps, P, L, bt, h⟩
  have h1 := h.1.1
  obtain ⟨t1, t2, t3, t4⟩ := id h.2.2.1
  have cls : F_BP_end N (mkM h0 B D hi z s) (B + 0) p = some ((g_end s.1 p).1, mkS h0 B D (g_end s.1 p).2 s.2 hi z) := s_BP_end h1
  have m0 : Md [] [0] s (wrI s 85 0 0) := Md_f (by decide)
  have e2 : (wrI s 85 0 0).1 85 2 = nI L := by rw [m0.2.1 2 (by decide)]; exact t3
  by_cases c : okn (L + 1) p
  · obtain ⟨n, hn, rfl⟩ := c
    have ge : g_end s.1 (nI n) = (1, up1 s.1 1 (upd (s.1 1) 1 (nI n))) := by
      unfold g_end
      rw [if_neg (nI_pos (by omega)), t2, if_pos (nI_le (by omega) (by omega))]
    rw [ge] at cls
    have cls' : F_BP_end N (mkM h0 B D hi z s) (B + 0) (nI n) = some (1, mkM h0 B D hi z (wr1 s 1 1 (nI n))) := cls
    have m1 : Md [] [0] (wr1 s 1 1 (nI n)) (wrI (wr1 s 1 1 (nI n)) 85 0 0) := Md_f (by decide)
    have e3 : (wrI (wr1 s 1 1 (nI n)) 85 0 0).1 85 2 = nI L := by rw [m1.2.1 2 (by decide), wr1_ne (by decide)]; exact t3
    generalize hs3 : wrI (wrI (wr1 s 1 1 (nI n)) 85 0 0) 85 2 (nI n) = s3
    have n85 : ∀ j, j ≠ 0 → j ≠ 2 → s3.1 85 j = s.1 85 j := by
      intro j j1 j2
      rw [← hs3, wrI_1, wr1_at, if_neg j2, wrI_1, wr1_at, if_neg j1, wr1_ne (by decide)]
    have nk : ∀ k, k ≠ 85 → s3.1 k = (wr1 s 1 1 (nI n)).1 k := by
      intro k hk
      rw [← hs3, wrI_1, wr1_ne hk, wrI_1, wr1_ne hk]
    refine ⟨1, D, hi, z, wr1 s 1 1 (nI n), s3, cls', h1, ?_, ow, np, As, Ps, P, n, bt, IA_tape h (fun k k1 k2 k3 k4 k5 => by rw [nk k k5, wr1_ne k1]) (n85 19 (by decide) (by decide)) ⟨by omega, ?_, ?_, fun i hi => ?_⟩⟩
    · show G_M_end N (wr1 s 1 1 (nI n)) (nI n) = _
      unfold G_M_end
      rw [if_neg (nI_pos (by omega)), e3, if_pos (nI_le (by omega) (by omega)), hs3]
    · rw [nk 1 (by decide), wr1_at, if_pos rfl]
    · rw [← hs3, wrI_1, wr1_at, if_pos rfl]
    · rw [nk 2 (by decide), nk 86 (by decide), wr1_ne (by decide), wr1_ne (by decide)]
      exact t4 i (by omega)
  · have ge : g_end s.1 p = (0, s.1) := by
      unfold g_end
      rw [t2]
      rcases okn_not (show L + 1 < 2 ^ 31 by omega) c with d | d
      · rw [if_pos d]
      · have d1 := (nI_m1_lt (show L + 1 < 2 ^ 31 by omega)).mpr d
        rw [nI_pred] at d1
        rw [if_neg (show ¬ p ≤ nI L from i32_nle.mpr d1), ite_self]
    rw [ge] at cls
    refine ⟨0, D, hi, z, s, wrI s 85 0 0, cls, h1, ?_, ow, np, As, Ps, P, L, bt, IA_q h (fun _ _ => rfl) h.1.2.2.2.1 Me_0⟩
    show G_M_end N s p = _
    unfold G_M_end G_M_end_17
    rw [e2]
    rcases okn_not (show L + 1 < 2 ^ 31 by omega) c with d | d
    · rw [if_pos d]
    · have d1 := (nI_m1_lt (show L + 1 < 2 ^ 31 by omega)).mpr d
      rw [nI_pred] at d1
      rw [if_neg (show ¬ p ≤ nI L from i32_nle.mpr d1), ite_self]
theorem TPr_fm {s1 : mst} {p : TT} (h : TPr s p) (e1 : s1.1 85 2 = s.1 85 2) (e2 : s1.1 86 = s.1 86) : TPr s1 p := by
  unfold TPr at h ⊢
  rw [e1, e2]
  exact h
theorem TPc_fm {s1 : mst} {p : TT} (h : TPc s p) (e1 : s1.1 1 = s.1 1) (e2 : s1.1 2 = s.1 2) : TPc s1 p := by
  unfold TPc at h ⊢
  rw [e1, e2]
  exact h
theorem st_feed {p0 p1 p2 p3 p4 : Int32} (hN : 2000 ≤ N) : STP eb h0 B (fun S => F_BP_feed N S (B + 0) p0 p1 p2 p3 p4) (fun s => G_M_feed N s p0 p1 p2 p3 p4) := by
  intro D hi z s ⟨ow, np, As, Ps, P, L, bt, h⟩
  have h1 := h.1.1
  obtain ⟨t1, t2, t3, t4⟩ := id h.2.2.1
  have b0 := cB_le (x := p0)
  have b1 := cB_le (x := p1)
  have b2 := cB_le (x := p2)
  have b3 := cB_le (x := p3)
  have b4 := cB_le (x := p4)
  have m0 : ∀ s : mst, Md [] [0] s (wrI s 85 0 0) := fun s => Md_f (by decide)
  have bi : ∀ x : Int32, F_BP_bytesIn N (mkM h0 B D hi z s) x = some (nI (cB x), mkM h0 B D hi z s) := by
    intro x
    rw [sg_BP_bytesIn h1, g_bytes (by omega)]
    rfl
  have tk : ∀ (s s' : mst) (x : Int32), G_Tape_take N s x = some s' → F_Tape_take N (mkM h0 B D hi z s) (B + 1) x = some (mkM h0 B D hi z s') := by
    intro s s' x e
    rw [sg_Tape_take h1, e]
    rfl
  have rb : ∀ (s : mst) (x : Int32), G_M_bytesIn N s x = some (nI (cB x), s) := fun s x => r_bytes (by omega)
  by_cases c : L + cB p0 + cB p1 + cB p2 + cB p3 + cB p4 ≤ 300
  · obtain ⟨sa, ea, ma, ha⟩ := g_take (N := N) (x := p0) (p := (L, bt)) (s := s) (by omega) ⟨t2, fun i hi => ⟨(t4 i hi).1, (t4 i hi).2.1⟩⟩ (show L + cB p0 ≤ 300 by omega)
    have la : (apX (L, bt) p0).1 = L + cB p0 := apX_l
    obtain ⟨sb, eb, mb, hb⟩ := g_take (N := N) (x := p1) (by omega) ha (by omega)
    have lb : (apX (apX (L, bt) p0) p1).1 = (apX (L, bt) p0).1 + cB p1 := apX_l
    obtain ⟨sc, ec, mc, hc⟩ := g_take (N := N) (x := p2) (by omega) hb (by omega)
    have lc : (apX (apX (apX (L, bt) p0) p1) p2).1 = (apX (apX (L, bt) p0) p1).1 + cB p2 := apX_l
    obtain ⟨sd, ed, md, hd⟩ := g_take (N := N) (x := p3) (by omega) hc (by omega)
    have ld : (apX (apX (apX (apX (L, bt) p0) p1) p2) p3).1 = (apX (apX (apX (L, bt) p0) p1) p2).1 + cB p3 := apX_l
    obtain ⟨se, ee, me, he⟩ := g_take (N := N) (x := p4) (by omega) hd (by omega)
    have le : (apX (apX (apX (apX (apX (L, bt) p0) p1) p2) p3) p4).1 = (apX (apX (apX (apX (L, bt) p0) p1) p2) p3).1 + cB p4 := apX_l
    have mS : Fm (fun q => q = 1 ∨ q = 2) s se := Fm_t ma (Fm_t mb (Fm_t mc (Fm_t md me)))
    have k0 := m0 se
    have hr0 : TPr (wrI se 85 0 0) (L, bt) := by
      refine ⟨?_, fun i hi => ?_⟩
      · rw [k0.2.1 2 (by decide), mS.1 85 (by omega)]; exact t3
      · rw [k0.1 86 (by simp) (by decide), mS.1 86 (by omega)]; exact (t4 i hi).2.2
    obtain ⟨ra, fa, na, ga⟩ := r_put (N := N) (x := p0) (by omega) hr0 (show L + cB p0 ≤ 300 by omega)
    obtain ⟨rb2, fb, nb, gb⟩ := r_put (N := N) (x := p1) (by omega) ga (by omega)
    obtain ⟨rc, fc, nc, gc⟩ := r_put (N := N) (x := p2) (by omega) gb (by omega)
    obtain ⟨rd, fd, nd, gd⟩ := r_put (N := N) (x := p3) (by omega) gc (by omega)
    obtain ⟨re, fe, ne, ge⟩ := r_put (N := N) (x := p4) (by omega) gd (by omega)
    have nS : Md [86] [2] (wrI se 85 0 0) re := Md_t na (Md_t nb (Md_t nc (Md_t nd ne)))
    generalize hpp : apX (apX (apX (apX (apX (L, bt) p0) p1) p2) p3) p4 = pp at he le ge
    have hl : pp.1 ≤ 300 := by omega
    have hsum : nI L + (nI (cB p0) + nI (cB p1) + nI (cB p2) + nI (cB p3) + nI (cB p4)) ≤ 300 := by
      rw [nI_add, nI_add, nI_add, nI_add, nI_add, L_300]
      exact nI_le (by omega) (by decide)
    have hsum2 : nI L + nI (cB p0) + nI (cB p1) + nI (cB p2) + nI (cB p3) + nI (cB p4) ≤ 300 := by
      rw [nI_add, nI_add, nI_add, nI_add, nI_add, L_300]
      exact nI_le (by omega) (by decide)
    have cls : F_BP_feed N (mkM h0 B D hi z s) (B + 0) p0 p1 p2 p3 p4 = some (nI pp.1, mkM h0 B D hi z se) := by
      unfold F_BP_feed
      rw [rcm_0 h1, if_pos rfl, bi, Option.bind_some]
      dsimp only
      rw [bi, Option.bind_some]
      dsimp only
      rw [bi, Option.bind_some]
      dsimp only
      rw [bi, Option.bind_some]
      dsimp only
      rw [bi, Option.bind_some]
      dsimp only
      rw [rdm_0_0 h1, Option.bind_some]
      dsimp only
      rw [c_tsize h1, Option.bind_some]
      dsimp only
      rw [t2, if_pos hsum, rdm_0_0 h1, Option.bind_some]
      dsimp only
      rw [tk _ _ _ ea, Option.bind_some, rdm_0_0 h1, Option.bind_some]
      dsimp only
      rw [tk _ _ _ eb, Option.bind_some, rdm_0_0 h1, Option.bind_some]
      dsimp only
      rw [tk _ _ _ ec, Option.bind_some, rdm_0_0 h1, Option.bind_some]
      dsimp only
      rw [tk _ _ _ ed, Option.bind_some, rdm_0_0 h1, Option.bind_some]
      dsimp only
      rw [tk _ _ _ ee, Option.bind_some, rdm_0_0 h1, Option.bind_some]
      dsimp only
      rw [c_tsize h1, Option.bind_some]
      dsimp only
      rw [he.1]
    have e2 : (wrI se 85 0 0).1 85 2 = nI L := hr0.1
    refine ⟨nI pp.1, D, hi, z, se, re, cls, h1, ?_, ow, np, As, Ps, P, pp.1, pp.2, IA_tape h (fun k k1 k2 k3 k4 k5 => ?_) ?_ (TP_cr hl (TPc_fm he ?_ ?_) ge)⟩
    · show G_M_feed N se p0 p1 p2 p3 p4 = _
      unfold G_M_feed
      rw [rb, Option.bind_some]
      dsimp only
      rw [rb, Option.bind_some]
      dsimp only
      rw [rb, Option.bind_some]
      dsimp only
      rw [rb, Option.bind_some]
      dsimp only
      rw [rb, Option.bind_some]
      dsimp only
      rw [e2, if_pos hsum2, fa, Option.bind_some, fb, Option.bind_some, fc, Option.bind_some, fd, Option.bind_some, fe, Option.bind_some, ge.1]
    · rw [nS.1 k (by simp only [List.mem_cons, List.not_mem_nil, or_false]; exact k4) k5, k0.1 k (by simp) k5, mS.1 k (by omega)]
    · rw [nS.2.1 19 (by decide), k0.2.1 19 (by decide), mS.1 85 (by omega)]
    · rw [nS.1 1 (by decide) (by decide), k0.1 1 (by simp) (by decide)]
    · rw [nS.1 2 (by decide) (by decide), k0.1 2 (by simp) (by decide)]
  · have hsum : ¬ nI L + (nI (cB p0) + nI (cB p1) + nI (cB p2) + nI (cB p3) + nI (cB p4)) ≤ 300 := by
      rw [nI_add, nI_add, nI_add, nI_add, nI_add, L_300]
      exact nI_ge (by omega) (by omega)
    have hsum2 : ¬ nI L + nI (cB p0) + nI (cB p1) + nI (cB p2) + nI (cB p3) + nI (cB p4) ≤ 300 := by
      rw [nI_add, nI_add, nI_add, nI_add, nI_add, L_300]
      exact nI_ge (by omega) (by omega)
    have e2 : (wrI s 85 0 0).1 85 2 = nI L := by rw [(m0 s).2.1 2 (by decide)]; exact t3
    refine ⟨-1, D, hi, z, s, wrI s 85 0 0, ?_, h1, ?_, ow, np, As, Ps, P, L, bt, IA_q h (fun _ _ => rfl) h.1.2.2.2.1 Me_0⟩
    · show F_BP_feed N (mkM h0 B D hi z s) (B + 0) p0 p1 p2 p3 p4 = _
      unfold F_BP_feed
      rw [rcm_0 h1, if_pos rfl, bi, Option.bind_some]
      dsimp only
      rw [bi, Option.bind_some]
      dsimp only
      rw [bi, Option.bind_some]
      dsimp only
      rw [bi, Option.bind_some]
      dsimp only
      rw [bi, Option.bind_some]
      dsimp only
      rw [rdm_0_0 h1, Option.bind_some]
      dsimp only
      rw [c_tsize h1, Option.bind_some]
      dsimp only
      rw [t2, if_neg hsum]
    · show G_M_feed N s p0 p1 p2 p3 p4 = _
      unfold G_M_feed
      rw [rb, Option.bind_some]
      dsimp only
      rw [rb, Option.bind_some]
      dsimp only
      rw [rb, Option.bind_some]
      dsimp only
      rw [rb, Option.bind_some]
      dsimp only
      rw [rb, Option.bind_some]
      dsimp only
      rw [e2, if_neg hsum2]
end IAT
