/-! ===== the reference: what of a PLAN it holds; its small questions ===== -/
/-- what changes: cells K, fields J of the reference's own cell -/
def Md (K J : List Nat) (s s' : mst) : Prop := (∀ k, k ∉ K → k ≠ 85 → s'.1 k = s.1 k) ∧ (∀ j, j ∉ J → s'.1 85 j = s.1 85 j) ∧ s'.2 = s.2
theorem Md_r {K J : List Nat} {s : mst} : Md K J s s := ⟨fun _ _ _ => rfl, fun _ _ => rfl, rfl⟩
theorem Md_t {K J : List Nat} {s s' s'' : mst} (h : Md K J s s') (h' : Md K J s' s'') : Md K J s s'' := ⟨fun k h1 h2 => (h'.1 k h1 h2).trans (h.1 k h1 h2), fun j h1 => (h'.2.1 j h1).trans (h.2.1 j h1), h'.2.2.trans h.2.2⟩
theorem Md_m {K J K' J' : List Nat} {s s' : mst} (h : Md K J s s') (hK : ∀ k, k ∈ K → k ∈ K') (hJ : ∀ k, k ∈ J → k ∈ J') : Md K' J' s s' := ⟨fun k h1 h2 => h.1 k (fun e => h1 (hK k e)) h2, fun j h1 => h.2.1 j (fun e => h1 (hJ j e)), h.2.2⟩
theorem Md_w {K J : List Nat} {s : mst} {k j : Nat} {x : Int32} (h : k ∈ K) (h85 : k ≠ 85) : Md K J s (wr1 s k j x) := ⟨fun q h1 _ => wr1_ne (fun e => h1 (by rw [e]; exact h)), fun _ _ => by rw [wr1_ne (fun e => h85 e.symm)], rfl⟩
theorem Md_f {K J : List Nat} {s : mst} {j : Nat} {x : Int32} (h : j ∈ J) : Md K J s (wr1 s 85 j x) := ⟨fun q _ h2 => wr1_ne h2, fun i h1 => by rw [wr1_at, if_neg (fun e => h1 (by rw [e]; exact h))], rfl⟩
def RPc (s : mst) (t : Nat) (A : AP) : Prop := s.1 87 t = nI (q_nb A) ∧ s.1 88 t = nI (q_nc A) ∧ ∀ x, x < q_nc A → s.1 89 (7 * t + x) = nI (q_fr A x) ∧ s.1 90 (7 * t + x) = nI (q_tb A x) ∧ s.1 91 (7 * t + x) = nI (q_pr A x) ∧ s.1 92 (7 * t + x) = nI (q_ln A x)
def RPo (s : mst) (t : Nat) (A : AP) : Prop := s.1 93 t = nI (q_nq A + q_ns A) ∧ s.1 99 t = nI (q_ns A) ∧ ∀ k, k < q_nq A + q_ns A → s.1 94 (60 * t + k) = nI (q_ok A k) ∧ s.1 95 (60 * t + k) = nI (q_os A k / 8) ∧ s.1 96 (60 * t + k) = nI (q_os A k % 8) ∧ s.1 97 (60 * t + k) = nI (if q_ok A k = 0 then q_ow A k / 8 else q_ow A k) ∧ (q_ok A k = 0 → s.1 98 (60 * t + k) = nI (q_ow A k % 8))
def RPt (s : mst) (t : Nat) (A : AP) : Prop := s.1 100 t = nI (q_nt A) ∧ ∀ k, k < q_nt A → s.1 101 (10 * t + k) = nI (q_tk A k) ∧ s.1 102 (10 * t + k) = nI (q_tx A k) ∧ (q_tk A k < 3 → s.1 103 (10 * t + k) = nI (q_tp A k)) ∧ (q_tk A k = 0 ∨ q_tk A k = 2 → s.1 104 (10 * t + k) = nI (q_tq A k)) ∧ (q_tk A k = 1 ∨ q_tk A k = 2 → s.1 105 (10 * t + k) = nI (q_td A k))
def RPe (s : mst) (t : Nat) (A : AP) : Prop := s.1 111 t = nI (q_ne A) ∧ ∀ k, k < q_ne A → s.1 112 (12 * t + k) = nI (q_ek A k) ∧ s.1 113 (12 * t + k) = nI (q_es A k / 8) ∧ s.1 114 (12 * t + k) = nI (q_es A k % 8) ∧ s.1 115 (12 * t + k) = nI (q_ee A k) ∧ (q_ek A k = 0 → s.1 116 (12 * t + k) = nI (q_ey A k) ∧ s.1 117 (12 * t + k) = nI (q_ei A k))
def RPr (s : mst) (t : Nat) (A : AP) : Prop := s.1 118 t = nI (q_nr A) ∧ ∀ k, k < q_nr A → s.1 119 (24 * t + k) = nI (q_rt A k) ∧ s.1 121 (24 * t + k) = nI (q_rw A k) ∧ s.1 120 (24 * t + k) = nI (q_rv A k)
def RPw (s : mst) (t : Nat) (A : AP) : Prop := ∀ h, h < 10 → s.1 125 (10 * t + h) = cd (q_wt A h)
/-- PLAN t of the reference is A -/
def RP (s : mst) (t : Nat) (A : AP) : Prop := RPc s t A ∧ RPo s t A ∧ RPt s t A ∧ RPe s t A ∧ RPr s t A ∧ RPw s t A
def pers : List Nat := [87, 88, 89, 90, 91, 92, 93, 94, 95, 96, 97, 98, 99, 100, 101, 102, 103, 104, 105, 111, 112, 113, 114, 115, 116, 117, 118, 119, 120, 121, 125]
theorem RP_eq {s s' : mst} {t : Nat} {A : AP} (h : RP s t A) (e : ∀ k, k ∈ pers → s'.1 k = s.1 k) : RP s' t A := by
  unfold RP RPc RPo RPt RPe RPr RPw at h ⊢
  rw [e 87 (by decide), e 88 (by decide), e 89 (by decide), e 90 (by decide), e 91 (by decide), e 92 (by decide), e 93 (by decide), e 94 (by decide), e 95 (by decide), e 96 (by decide), e 97 (by decide), e 98 (by decide), e 99 (by decide), e 100 (by decide), e 101 (by decide), e 102 (by decide), e 103 (by decide), e 104 (by decide), e 105 (by decide), e 111 (by decide), e 112 (by decide), e 113 (by decide), e 114 (by decide), e 115 (by decide), e 116 (by decide), e 117 (by decide), e 118 (by decide), e 119 (by decide), e 120 (by decide), e 121 (by decide), e 125 (by decide)]
  exact h
theorem RP_md {s s' : mst} {t : Nat} {A : AP} {K J : List Nat} (h : RP s t A) (hm : Md K J s s') (hK : ∀ k, k ∈ pers → k ∉ K ∧ k ≠ 85) : RP s' t A := RP_eq h (fun k hk => hm.1 k (hK k hk).1 (hK k hk).2)
section RPL
variable {s : mst} {t x k h : Nat} {A : AP}
theorem rp_nb (h : RP s t A) : s.1 87 t = nI (q_nb A) := h.1.1
theorem rp_nc (h : RP s t A) : s.1 88 t = nI (q_nc A) := h.1.2.1
theorem rp_fr (h : RP s t A) (hx : x < q_nc A) : s.1 89 (7 * t + x) = nI (q_fr A x) := (h.1.2.2 x hx).1
theorem rp_tb (h : RP s t A) (hx : x < q_nc A) : s.1 90 (7 * t + x) = nI (q_tb A x) := (h.1.2.2 x hx).2.1
theorem rp_pr (h : RP s t A) (hx : x < q_nc A) : s.1 91 (7 * t + x) = nI (q_pr A x) := (h.1.2.2 x hx).2.2.1
theorem rp_ln (h : RP s t A) (hx : x < q_nc A) : s.1 92 (7 * t + x) = nI (q_ln A x) := (h.1.2.2 x hx).2.2.2
theorem rp_no (h : RP s t A) : s.1 93 t = nI (q_nq A + q_ns A) := h.2.1.1
theorem rp_ns (h : RP s t A) : s.1 99 t = nI (q_ns A) := h.2.1.2.1
theorem rp_nt (h : RP s t A) : s.1 100 t = nI (q_nt A) := h.2.2.1.1
theorem rp_tk (h : RP s t A) (hk : k < q_nt A) : s.1 101 (10 * t + k) = nI (q_tk A k) := (h.2.2.1.2 k hk).1
theorem rp_tx (h : RP s t A) (hk : k < q_nt A) : s.1 102 (10 * t + k) = nI (q_tx A k) := (h.2.2.1.2 k hk).2.1
theorem rp_tp (h : RP s t A) (hk : k < q_nt A) (hq : q_tk A k < 3) : s.1 103 (10 * t + k) = nI (q_tp A k) := (h.2.2.1.2 k hk).2.2.1 hq
theorem rp_tq (h : RP s t A) (hk : k < q_nt A) (hq : q_tk A k = 0 ∨ q_tk A k = 2) : s.1 104 (10 * t + k) = nI (q_tq A k) := (h.2.2.1.2 k hk).2.2.2.1 hq
theorem rp_td (h : RP s t A) (hk : k < q_nt A) (hq : q_tk A k = 1 ∨ q_tk A k = 2) : s.1 105 (10 * t + k) = nI (q_td A k) := (h.2.2.1.2 k hk).2.2.2.2 hq
theorem rp_ne (h : RP s t A) : s.1 111 t = nI (q_ne A) := h.2.2.2.1.1
theorem rp_nr (h : RP s t A) : s.1 118 t = nI (q_nr A) := h.2.2.2.2.1.1
theorem rp_wt {i : Nat} (h : RP s t A) (hi : i < 10) : s.1 125 (10 * t + i) = cd (q_wt A i) := h.2.2.2.2.2 i hi
end RPL
/-- an argument within bounds -/
def okn (n : Nat) (p : Int32) : Prop := ∃ j, j < n ∧ p = nI j
theorem okn_not {n : Nat} {p : Int32} (hn : n < 2 ^ 31) (h : ¬ okn n p) : p < 0 ∨ nI n ≤ p := by
  rcases pk_ix p hn with h1 | h1 | ⟨j, hj, e⟩
  · exact Or.inl h1
  · exact Or.inr h1
  · exact absurd ⟨j, hj, e⟩ h
theorem i10 : ¬ (1 : Int32) = 0 := by decide
section RQ
variable {N : Nat} {s : mst} {p0 p1 p2 : Int32}
theorem r_isIn : G_M_isIn N s p0 p1 p2 = some (if p0 < p1 then 0 else if p2 < p0 then 0 else 1, s) := by
  unfold G_M_isIn G_M_isIn_14 G_M_isIn_15
  split
  · rfl
  · split <;> rfl
theorem nI_m1_lt {n : Nat} (hn : n < 2 ^ 31) : nI n - 1 < p0 ↔ nI n ≤ p0 := by
  rw [i_lt, i_le]
  cases n with
  | zero =>
    show (nI 0 - 1).toInt < p0.toInt ↔ (nI 0).toInt ≤ p0.toInt
    rw [show (nI 0 - 1).toInt = -1 from by decide, show (nI 0).toInt = 0 from by decide]
    omega
  | succ n =>
    rw [nI_pred, nI_toInt (by omega), nI_toInt hn]
    omega
theorem r_in_t {j n : Nat} (h : j < n) (hn : n < 2 ^ 31) : G_M_isIn N s (nI j) 0 (nI n - 1) = some (1, s) := by
  rw [r_isIn, if_neg (nI_pos (by omega)), if_neg (by rw [nI_m1_lt hn]; exact nI_ge h hn)]
theorem r_in_f {n : Nat} (hn : n < 2 ^ 31) (h : ¬ okn n p0) : G_M_isIn N s p0 0 (nI n - 1) = some (0, s) := by
  rw [r_isIn]
  rcases okn_not hn h with h1 | h1
  · rw [if_pos h1]
  · split
    · rfl
    · rw [if_pos ((nI_m1_lt hn).mpr h1)]
theorem r_isEnd_t {j : Nat} (h : j < 2) : G_M_isEnd N s (nI j) = some (1, s) := by
  unfold G_M_isEnd
  rw [show (1 : Int32) = nI 2 - 1 from by decide, r_in_t h (by decide)]
  rfl
theorem r_isEnd_f (h : ¬ okn 2 p0) : G_M_isEnd N s p0 = some (0, s) := by
  unfold G_M_isEnd
  rw [show (1 : Int32) = nI 2 - 1 from by decide, r_in_f (by decide) h]
  rfl
theorem r_isHouse_t {j : Nat} (h : j < 10) : G_M_isNumberOfHouse N s (nI j) = some (1, s) := by
  unfold G_M_isNumberOfHouse
  rw [show (9 : Int32) = nI 10 - 1 from by decide, r_in_t h (by decide)]
  rfl
theorem r_isHouse_f (h : ¬ okn 10 p0) : G_M_isNumberOfHouse N s p0 = some (0, s) := by
  unfold G_M_isNumberOfHouse
  rw [show (9 : Int32) = nI 10 - 1 from by decide, r_in_f (by decide) h]
  rfl
variable {np t x w : Nat} {A : AP}
theorem r_isPlan_t (hp : s.1 85 19 = nI np) (hn : np ≤ 6) (h : t < np) : G_M_isPlan N s (nI t) = some (1, s) := by
  unfold G_M_isPlan G_M_isPlan_16 G_M_isPlan_17
  rw [if_neg (nI_pos (by omega)), hp, if_neg (nI_ge h (by omega))]
  rfl
theorem r_isPlan_f (hp : s.1 85 19 = nI np) (hn : np ≤ 6) (h : ¬ okn np p0) : G_M_isPlan N s p0 = some (0, s) := by
  unfold G_M_isPlan G_M_isPlan_16 G_M_isPlan_17
  rw [hp]
  rcases okn_not (show np < 2 ^ 31 by omega) h with h1 | h1
  · rw [if_pos h1]
    rfl
  · split
    · rfl
    · first
      | rw [if_pos h1]; rfl
      | rfl
theorem r_isCable_t (hp : s.1 85 19 = nI np) (hn : np ≤ 6) (h : t < np) (hc : q_nc A ≤ 7) (hR : s.1 88 t = nI (q_nc A)) (hx : x < q_nc A) : G_M_isCable N s (nI t) (nI x) = some (1, s) := by
  unfold G_M_isCable
  rw [r_isPlan_t hp hn h, Option.bind_some, if_neg i10, rdA_nI (by omega) (by decide), Option.bind_some, hR, r_in_t hx (by omega), Option.bind_some, if_neg i10]
  rfl
theorem r_isCable_f (hp : s.1 85 19 = nI np) (hn : np ≤ 6) (hc : ∀ t, t < np → ∃ n, n ≤ 7 ∧ s.1 88 t = nI n ∧ (p0 = nI t → ¬ okn n p1)) : G_M_isCable N s p0 p1 = some (0, s) := by
  unfold G_M_isCable G_M_isCable_28 G_M_isCable_29
  by_cases h : okn np p0
  · obtain ⟨t, ht, rfl⟩ := h
    obtain ⟨n, h1, h2, h3⟩ := hc t ht
    rw [r_isPlan_t hp hn ht, Option.bind_some, if_neg i10, rdA_nI (by omega) (by decide), Option.bind_some, h2, r_in_f (by omega) (h3 rfl), Option.bind_some, if_pos rfl]
    rfl
  · rw [r_isPlan_f hp hn h, Option.bind_some, if_pos rfl]
    rfl
theorem r_isPair_t {p : Nat} (hp : s.1 85 19 = nI np) (hn : np ≤ 6) (h : t < np) (hA : WF A) (hR : RP s t A) (hx : x < q_nc A) (hq : p < q_pr A x) : G_M_isPair N s (nI t) (nI x) (nI p) = some (1, s) := by
  have hc := hA.1.2.2.1
  have hb := hA.2.1 x hx
  unfold G_M_isPair
  rw [r_isCable_t hp hn h hc (rp_nc hR) hx, Option.bind_some, if_neg i10, L_7, nI_mul, nI_add, rdA_nI (by omega) (by decide), Option.bind_some, rp_pr hR hx, r_in_t hq (by omega), Option.bind_some, if_neg i10]
  rfl
/-- PLANS of the reference, by number -/
def RPs (s : mst) (np : Nat) (As : Nat → AP) : Prop := s.1 85 19 = nI np ∧ np ≤ 6 ∧ ∀ t, t < np → WF (As t) ∧ RP s t (As t)
/-- an argument that is a PLAN, and so on -/
def okC (np : Nat) (As : Nat → AP) (p0 p1 : Int32) : Prop := ∃ t x, t < np ∧ x < q_nc (As t) ∧ p0 = nI t ∧ p1 = nI x
def okP (np : Nat) (As : Nat → AP) (p0 p1 p2 : Int32) : Prop := ∃ t x p, t < np ∧ x < q_nc (As t) ∧ p < q_pr (As t) x ∧ p0 = nI t ∧ p1 = nI x ∧ p2 = nI p
def okW (np : Nat) (As : Nat → AP) (p0 p1 : Int32) : Prop := ∃ t w, t < np ∧ w < 2 ^ q_nt (As t) ∧ p0 = nI t ∧ p1 = nI w
variable {As : Nat → AP}
theorem r_isCable_n (h : RPs s np As) (hc : ¬ okC np As p0 p1) : G_M_isCable N s p0 p1 = some (0, s) := by
  refine r_isCable_f h.1 h.2.1 (fun t ht => ⟨q_nc (As t), (h.2.2 t ht).1.1.2.2.1, rp_nc (h.2.2 t ht).2, fun e ho => ?_⟩)
  obtain ⟨x, hx, e'⟩ := ho
  exact hc ⟨t, x, ht, hx, e, e'⟩
theorem r_isPair_n (h : RPs s np As) (hc : ¬ okP np As p0 p1 p2) : G_M_isPair N s p0 p1 p2 = some (0, s) := by
  unfold G_M_isPair G_M_isPair_34 G_M_isPair_35
  by_cases h1 : okC np As p0 p1
  · obtain ⟨t, x, ht, hx, rfl, rfl⟩ := h1
    obtain ⟨hA, hR⟩ := h.2.2 t ht
    have hnc := hA.1.2.2.1
    have hb := hA.2.1 x hx
    have hnp := h.2.1
    rw [r_isCable_t h.1 h.2.1 ht hnc (rp_nc hR) hx, Option.bind_some, if_neg i10, L_7, nI_mul, nI_add, rdA_nI (by omega) (by decide), Option.bind_some, rp_pr hR hx, r_in_f (by omega) ?_, Option.bind_some, if_pos rfl]
    · rfl
    · intro ⟨p, hp, e⟩
      exact hc ⟨t, x, p, ht, hx, hp, rfl, rfl, e⟩
  · rw [r_isCable_n h h1, Option.bind_some, if_pos rfl]
    rfl
theorem sh1 {n : Nat} (h : n ≤ 10) : (1 : Int32) <<< (nI n &&& 31) = nI (2 ^ n) := by
  have h2 : (2 : Nat) ^ n ≤ 2 ^ 10 := Nat.pow_le_pow_right (by decide) h
  have := nI_shl (w := 1) (k := n) (by omega) (by omega)
  rw [Nat.one_mul] at this
  exact this
theorem pow10 {n : Nat} (h : n ≤ 10) : 2 ^ n ≤ 1024 := Nat.pow_le_pow_right (n := 2) (by decide) h
theorem r_isWorld_t (h : RPs s np As) (ht : t < np) (hw : w < 2 ^ q_nt (As t)) : G_M_isWorld N s (nI t) (nI w) = some (1, s) := by
  obtain ⟨hA, hR⟩ := h.2.2 t ht
  have hnt := hA.1.2.2.2.2.2.1
  have hp := pow10 hnt
  have hnp := h.2.1
  unfold G_M_isWorld G_M_isWorld_28 G_M_isWorld_29
  rw [r_isPlan_t h.1 h.2.1 ht, Option.bind_some, if_neg i10, if_neg (nI_pos (by omega)), rdA_nI (by omega) (by decide), Option.bind_some, rp_nt hR, sh1 hnt, if_neg (nI_ge hw (by omega))]
  rfl
theorem r_isWorld_n (h : RPs s np As) (hc : ¬ okW np As p0 p1) : G_M_isWorld N s p0 p1 = some (0, s) := by
  unfold G_M_isWorld G_M_isWorld_28 G_M_isWorld_29
  by_cases h1 : okn np p0
  · obtain ⟨t, ht, rfl⟩ := h1
    obtain ⟨hA, hR⟩ := h.2.2 t ht
    have hnt := hA.1.2.2.2.2.2.1
    have hp := pow10 hnt
    have hnp := h.2.1
    rw [r_isPlan_t h.1 h.2.1 ht, Option.bind_some, if_neg i10]
    rcases okn_not (show 2 ^ q_nt (As t) < 2 ^ 31 by omega) (fun ⟨w, hw, e⟩ => hc ⟨t, w, ht, hw, rfl, e⟩) with h2 | h2
    · rw [if_pos h2]
      rfl
    · split
      · rfl
      · rw [rdA_nI (by omega) (by decide), Option.bind_some, rp_nt hR, sh1 hnt, if_pos h2]
        rfl
  · rw [r_isPlan_f h.1 h.2.1 h1, Option.bind_some, if_pos rfl]
    rfl
end RQ
/-- the first of n that is b (0 none, i + 1) -/
def q_ff (f : Nat → Nat) (b : Nat) : Nat → Nat
  | 0 => 0
  | n + 1 => if q_ff f b n = 0 then (if f n = b then n + 1 else 0) else q_ff f b n
theorem q_ff_lt {f : Nat → Nat} {b : Nat} : ∀ n, q_ff f b n ≤ n := by
  intro n
  induction n with
  | zero => exact Nat.le_refl 0
  | succ n ih =>
    unfold q_ff
    split
    · split <;> omega
    · omega
theorem q_ff_at {f : Nat → Nat} {b i : Nat} (h0 : q_ff f b i = 0) (hi : f i = b) : ∀ n, i < n → q_ff f b n = i + 1 := by
  intro n
  induction n with
  | zero => intro h; omega
  | succ n ih =>
    intro h
    unfold q_ff
    by_cases e : i = n
    · subst e
      rw [if_pos h0, if_pos hi]
    · rw [ih (by omega), if_neg (by omega)]
theorem q_ff_0 {f : Nat → Nat} {b : Nat} : ∀ n, q_ff f b n = 0 ↔ ∀ i, i < n → f i ≠ b := by
  intro n
  induction n with
  | zero => exact ⟨fun _ i h => by omega, fun _ => rfl⟩
  | succ n ih =>
    unfold q_ff
    constructor
    · intro h i hi
      split at h
      · rename_i h1
        by_cases e : i = n
        · subst e
          intro e2
          rw [if_pos e2] at h
          omega
        · exact (ih.mp h1) i (by omega)
      · rename_i h1
        exact absurd h h1
    · intro h
      rw [if_pos (ih.mpr (fun i hi => h i (by omega))), if_neg (h n (by omega))]
theorem q_ff_s {f : Nat → Nat} {b n v : Nat} (h : q_ff f b n = v + 1) : v < n ∧ f v = b ∧ ∀ i, i < v → f i ≠ b := by
  induction n with
  | zero => unfold q_ff at h; omega
  | succ n ih =>
    unfold q_ff at h
    split at h
    · rename_i h1
      split at h
      · rename_i h2
        have e : v = n := by omega
        subst e
        exact ⟨by omega, h2, (q_ff_0 v).mp h1⟩
      · omega
    · obtain ⟨a, b, c⟩ := ih h
      exact ⟨by omega, b, c⟩
theorem r_comesTo {N t b : Nat} {s : mst} {A : AP} (hN : 10 ≤ N) (ht : t < 7) (hA : WFc A) (hX : WFx A) (hR : RPc s t A) (hb : b < 100) : G_M_comesTo N s (nI t) (nI b) = some (cd (q_ff (q_tb A) b (q_nc A)), s) := by
  have hnc := hA.2.2.1
  have hnb := hA.2.1
  unfold G_M_comesTo
  refine Exists.elim (lpQ (F := fun f i s => G_M_comesTo_2 N (nI t) (nI b) f (nI i) s) (n := q_nc A) (I := fun i s' => s' = s ∧ q_ff (q_tb A) b i = 0) (Q := fun r => r = (cd (q_ff (q_tb A) b (q_nc A)), s)) ?_ ?_ N 0 s (by omega) (by omega) ⟨rfl, rfl⟩) ?_
  rotate_left 2
  · intro r hlp
    obtain ⟨rfl, e⟩ := hlp
    exact e
  · intro f i s' hi hI
    obtain ⟨rfl, h0⟩ := hI
    have hx := hX i hi
    have e1 := hR.2.1
    have e2 := (hR.2.2 i hi).2.1
    simp (disch := omega) only [G_M_comesTo_2, GB_M_comesTo_2, L_0, L_1, L_2, L_3, L_4, L_5, L_6, L_7, L_8, L_9, L_10, L_11, L_12, L_15, L_16, L_20, L_24, L_26, L_31, L_32, L_42, L_48, L_56, L_57, L_59, L_60, L_97, L_98, L_99, L_104, L_106, L_255, L_300, L_462, L_616, neg1, nI_add, nI_mul, pk_div, pk_sub, nI_or, nI_shr, nI_shl, nI_and1, nI_leI, nI_ltI, nI_eq, cd_eq, cd_nI, nI_cd, rdA_nI, stA_nI, wrI_1, Option.bind_some, Option.map_some, Option.bind_none, if_true, if_false, e1, e2]
    rw [if_neg (by omega)]
    by_cases h : q_tb A i = b
    · right
      rw [if_pos h]
      refine ⟨_, rfl, ?_⟩
      rw [q_ff_at h0 h _ hi, cd_s]
      rfl
    · left
      rw [if_neg h]
      refine ⟨s', ⟨rfl, ?_⟩, rfl⟩
      simp only [q_ff, h0, if_true, if_neg h]
  · intro f s' hI
    obtain ⟨rfl, h0⟩ := hI
    have e1 := hR.2.1
    refine ⟨_, rfl, ?_⟩
    simp (disch := omega) only [G_M_comesTo_2, GB_M_comesTo_2, L_0, L_1, L_2, L_3, L_4, L_5, L_6, L_7, L_8, L_9, L_10, L_11, L_12, L_15, L_16, L_20, L_24, L_26, L_31, L_32, L_42, L_48, L_56, L_57, L_59, L_60, L_97, L_98, L_99, L_104, L_106, L_255, L_300, L_462, L_616, neg1, nI_add, nI_mul, pk_div, pk_sub, nI_or, nI_shr, nI_shl, nI_and1, nI_leI, nI_ltI, nI_eq, cd_eq, cd_nI, nI_cd, rdA_nI, stA_nI, wrI_1, Option.bind_some, Option.map_some, Option.bind_none, if_true, if_false, e1]
    rw [if_pos (by omega), h0, cd_0]
    rfl
