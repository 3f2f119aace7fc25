/-! ===== WALK: both sides ===== -/
def q_pc (A : AP) (x : Nat) : Nat := q_ff (q_tb A) x (q_nc A)
def q_pa (A : AP) (x : Nat) : Nat := q_fr A (q_pc A x - 1)
def q_pl (A : AP) (x : Nat) : Nat := q_ln A (q_pc A x - 1)
def q_ad (r l : Nat) : Nat := if r = 0 then 0 else r + l
theorem q_pc_s {A : AP} (hA : WF A) {x : Nat} (h : q_pc A x ≠ 0) : q_pc A x - 1 < q_nc A ∧ q_tb A (q_pc A x - 1) = x ∧ q_pa A x < x ∧ q_pl A x ≤ 99 ∧ 1 ≤ q_pl A x := by
  obtain ⟨v, hv⟩ : ∃ v, q_pc A x = v + 1 := ⟨q_pc A x - 1, by omega⟩
  obtain ⟨h1, h2, _⟩ := q_ff_s hv
  have hx := hA.2.1 v h1
  unfold q_pa q_pl
  rw [hv, Nat.add_sub_cancel]
  omega
/-- the way between two BOXES: the higher one goes up -/
def q_wf (A : AP) : Nat → Nat → Nat → Nat
  | 0 => fun _ _ => 0
  | f + 1 => fun a b => if a = b then 1 else if b < a then (if q_pc A a = 0 then 0 else q_ad (q_wf A f (q_pa A a) b) (q_pl A a)) else (if q_pc A b = 0 then 0 else q_ad (q_wf A f a (q_pa A b)) (q_pl A b))
theorem q_wf_sym {A : AP} : ∀ f a b, q_wf A f a b = q_wf A f b a := by
  intro f
  induction f with
  | zero => intro a b; rfl
  | succ f ih =>
    intro a b
    simp only [q_wf]
    by_cases h : a = b
    · rw [if_pos h, if_pos h.symm]
    · rw [if_neg h, if_neg (show ¬ b = a from fun e => h e.symm)]
      by_cases h2 : b < a
      · rw [if_pos h2, if_neg (show ¬ a < b by omega), ih]
      · rw [if_neg h2, if_pos (show a < b by omega), ih]
theorem q_wf_st {A : AP} (hA : WF A) : ∀ f f' a b, a + b < f → a + b < f' → q_wf A f a b = q_wf A f' a b := by
  intro f
  induction f with
  | zero => intro f' a b h; omega
  | succ f ih =>
    intro f' a b h h'
    obtain ⟨g, rfl⟩ : ∃ g, f' = g + 1 := ⟨f' - 1, by omega⟩
    simp only [q_wf]
    by_cases c1 : a = b
    · rw [if_pos c1, if_pos c1]
    · rw [if_neg c1, if_neg c1]
      by_cases c2 : b < a
      · rw [if_pos c2, if_pos c2]
        by_cases c3 : q_pc A a = 0
        · rw [if_pos c3, if_pos c3]
        · have := q_pc_s hA c3
          rw [if_neg c3, if_neg c3, ih g (q_pa A a) b (by omega) (by omega)]
      · rw [if_neg c2, if_neg c2]
        by_cases c3 : q_pc A b = 0
        · rw [if_pos c3, if_pos c3]
        · have := q_pc_s hA c3
          rw [if_neg c3, if_neg c3, ih g a (q_pa A b) (by omega) (by omega)]
/-- up from a BOX to one above it -/
def q_up (A : AP) (above : Nat) : Nat → Nat → Nat
  | 0 => fun _ => 0
  | f + 1 => fun b => if b = above then 1 else if q_pc A b = 0 then 0 else q_ad (q_up A above f (q_pa A b)) (q_pl A b)
theorem q_up_st {A : AP} (hA : WF A) {c : Nat} : ∀ f f' b, b < f → b < f' → q_up A c f b = q_up A c f' b := by
  intro f
  induction f with
  | zero => intro f' b h; omega
  | succ f ih =>
    intro f' b h h'
    obtain ⟨g, rfl⟩ : ∃ g, f' = g + 1 := ⟨f' - 1, by omega⟩
    simp only [q_up]
    by_cases c1 : b = c
    · rw [if_pos c1, if_pos c1]
    · rw [if_neg c1, if_neg c1]
      by_cases c3 : q_pc A b = 0
      · rw [if_pos c3, if_pos c3]
      · have := q_pc_s hA c3
        rw [if_neg c3, if_neg c3, ih g (q_pa A b) (by omega) (by omega)]
/-- with room enough -/
def q_U (A : AP) (b c : Nat) : Nat := q_up A c (b + 1) b
theorem q_U_eq {A : AP} (hA : WF A) {b c : Nat} : q_U A b c = if b = c then 1 else if q_pc A b = 0 then 0 else q_ad (q_U A (q_pa A b) c) (q_pl A b) := by
  conv => lhs; unfold q_U q_up
  by_cases c1 : b = c
  · rw [if_pos c1, if_pos c1]
  · rw [if_neg c1, if_neg c1]
    by_cases c3 : q_pc A b = 0
    · rw [if_pos c3, if_pos c3]
    · have := q_pc_s hA c3
      rw [if_neg c3, if_neg c3, q_up_st hA b (q_pa A b + 1) (q_pa A b) (by omega) (by omega)]
      rfl
theorem q_ad_0 {r l : Nat} : q_ad r l = 0 ↔ r = 0 := by
  unfold q_ad
  constructor
  · intro h; split at h <;> omega
  · intro h; rw [if_pos h]
theorem q_ad_s {r l : Nat} (h : r ≠ 0) : q_ad r l = r + l := if_neg h
theorem q_U_le {A : AP} (hA : WF A) {c : Nat} : ∀ n b, b < n → q_U A b c ≠ 0 → c ≤ b := by
  intro n
  induction n with
  | zero => intro b h; omega
  | succ n ih =>
    intro b h hu
    rw [q_U_eq hA] at hu
    by_cases c1 : b = c
    · omega
    · rw [if_neg c1] at hu
      by_cases c3 : q_pc A b = 0
      · rw [if_pos c3] at hu; exact absurd rfl hu
      · have := q_pc_s hA c3
        rw [if_neg c3] at hu
        have := ih (q_pa A b) (by omega) (fun e => hu (q_ad_0.mpr e))
        omega
theorem q_U_pa {A : AP} (hA : WF A) {c : Nat} (hc : q_pc A c ≠ 0) : ∀ n b, b < n → q_U A b c ≠ 0 → q_U A b (q_pa A c) ≠ 0 := by
  intro n
  induction n with
  | zero => intro b h; omega
  | succ n ih =>
    intro b h hu
    have hpc := q_pc_s hA hc
    rw [q_U_eq hA] at hu ⊢
    by_cases c1 : b = c
    · rw [c1, if_neg (by omega), if_neg hc]
      intro e
      rw [q_ad_0, q_U_eq hA, if_pos rfl] at e
      omega
    · rw [if_neg c1] at hu
      by_cases c3 : q_pc A b = 0
      · rw [if_pos c3] at hu; exact absurd rfl hu
      · have := q_pc_s hA c3
        rw [if_neg c3] at hu
        have hu2 : q_U A (q_pa A b) c ≠ 0 := fun e => hu (q_ad_0.mpr e)
        by_cases c4 : b = q_pa A c
        · rw [if_pos c4]; omega
        · rw [if_neg c4, if_neg c3]
          intro e
          exact ih (q_pa A b) (by omega) hu2 (q_ad_0.mp e)
/-- the reference's search -/
def q_kk (A : AP) (one other : Nat) : Nat → Nat → Nat
  | 0 => fun _ => 0
  | f + 1 => fun b => if q_U A other b ≠ 0 then q_U A other b + q_U A one b - 1 else if q_pc A b = 0 then 0 else q_kk A one other f (q_pa A b)
theorem q_kk_1 {A : AP} (hA : WF A) {one other : Nat} (hp : q_pc A one ≠ 0) : ∀ f b, b < f → b < one → q_U A (q_pa A one) b ≠ 0 → q_kk A one other f b = q_ad (q_kk A (q_pa A one) other f b) (q_pl A one) := by
  intro f
  induction f with
  | zero => intro b h; omega
  | succ f ih =>
    intro b hb h1 h2
    simp only [q_kk]
    have e1 : q_U A one b = q_U A (q_pa A one) b + q_pl A one := by rw [q_U_eq hA, if_neg (by omega), if_neg hp, q_ad_s h2]
    by_cases c1 : q_U A other b ≠ 0
    · rw [if_pos c1, if_pos c1, e1, q_ad_s (by omega)]
      omega
    · rw [if_neg c1, if_neg c1]
      by_cases c2 : q_pc A b = 0
      · rw [if_pos c2, if_pos c2]
        rfl
      · have := q_pc_s hA c2
        rw [if_neg c2, if_neg c2]
        exact ih (q_pa A b) (by omega) (by omega) (q_U_pa hA c2 _ _ (Nat.lt_succ_self _) h2)
theorem q_kk_2 {A : AP} (hA : WF A) {one other : Nat} : ∀ f b, b < f → b < other → q_U A one b ≠ 0 → q_kk A one other f b = if q_pc A other = 0 then 0 else q_ad (q_kk A one (q_pa A other) f b) (q_pl A other) := by
  intro f
  induction f with
  | zero => intro b h; omega
  | succ f ih =>
    intro b hb h1 h2
    simp only [q_kk]
    by_cases c0 : q_pc A other = 0
    · have e1 : q_U A other b = 0 := by rw [q_U_eq hA, if_neg (by omega), if_pos c0]
      rw [if_neg (fun h => h e1), if_pos c0]
      by_cases c2 : q_pc A b = 0
      · rw [if_pos c2]
      · have := q_pc_s hA c2
        rw [if_neg c2, ih (q_pa A b) (by omega) (by omega) (q_U_pa hA c2 _ _ (Nat.lt_succ_self _) h2), if_pos c0]
    · have e1 : q_U A other b = q_ad (q_U A (q_pa A other) b) (q_pl A other) := by rw [q_U_eq hA, if_neg (by omega), if_neg c0]
      rw [if_neg c0]
      by_cases c1 : q_U A (q_pa A other) b ≠ 0
      · rw [e1, q_ad_s c1, if_pos (by omega), if_pos c1, q_ad_s (by omega)]
        omega
      · have c1' : q_U A (q_pa A other) b = 0 := by
          apply Classical.byContradiction
          intro h; exact c1 h
        rw [e1, if_neg (fun h => h (q_ad_0.mpr c1')), if_neg c1]
        by_cases c2 : q_pc A b = 0
        · rw [if_pos c2, if_pos c2]
          rfl
        · have := q_pc_s hA c2
          rw [if_neg c2, if_neg c2, ih (q_pa A b) (by omega) (by omega) (q_U_pa hA c2 _ _ (Nat.lt_succ_self _) h2), if_neg c0]
theorem q_kk_st {A : AP} (hA : WF A) {one other : Nat} : ∀ f f' b, b < f → b < f' → q_kk A one other f b = q_kk A one other f' b := by
  intro f
  induction f with
  | zero => intro f' b h; omega
  | succ f ih =>
    intro f' b h h'
    obtain ⟨g, rfl⟩ : ∃ g, f' = g + 1 := ⟨f' - 1, by omega⟩
    simp only [q_kk]
    by_cases c1 : q_U A other b ≠ 0
    · rw [if_pos c1, if_pos c1]
    · rw [if_neg c1, if_neg c1]
      by_cases c3 : q_pc A b = 0
      · rw [if_pos c3, if_pos c3]
      · have := q_pc_s hA c3
        rw [if_neg c3, if_neg c3, ih g (q_pa A b) (by omega) (by omega)]
/-- both ways are one -/
theorem q_kk_wf {A : AP} (hA : WF A) : ∀ n one other, one + other < n → q_kk A one other (one + 1) one = q_wf A n one other := by
  intro n
  induction n with
  | zero => intro one other h; omega
  | succ n ih =>
    intro one other h
    simp only [q_wf]
    have hself : ∀ x, q_U A x x = 1 := fun x => by rw [q_U_eq hA, if_pos rfl]
    by_cases c1 : one = other
    · rw [if_pos c1]
      simp only [q_kk]
      rw [c1, hself, if_pos (by omega)]
    · rw [if_neg c1]
      by_cases c2 : other < one
      · rw [if_pos c2]
        have hU : q_U A other one = 0 := by
          apply Classical.byContradiction
          intro hh
          have := q_U_le hA (c := one) (other + 1) other (by omega) hh
          omega
        simp only [q_kk]
        rw [if_neg (fun hh => hh hU)]
        by_cases c3 : q_pc A one = 0
        · rw [if_pos c3, if_pos c3]
        · have hp := q_pc_s hA c3
          rw [if_neg c3, if_neg c3, q_kk_1 hA c3 one (q_pa A one) (by omega) (by omega) (by rw [hself]; omega), q_kk_st hA one (q_pa A one + 1) (q_pa A one) (by omega) (by omega), ih (q_pa A one) other (by omega)]
      · rw [if_neg c2, q_kk_2 hA (one + 1) one (by omega) (by omega) (by rw [hself]; omega)]
        by_cases c3 : q_pc A other = 0
        · rw [if_pos c3, if_pos c3]
        · have hp := q_pc_s hA c3
          rw [if_neg c3, if_neg c3, ih one (q_pa A other) (by omega)]
def q_way (A : AP) (a b : Nat) : Nat := q_wf A 16 a b
theorem q_wf_le {A : AP} (hA : WF A) : ∀ f a b, q_wf A f a b ≤ 99 * f + 1 := by
  intro f
  induction f with
  | zero => intro a b; exact Nat.zero_le _
  | succ f ih =>
    intro a b
    simp only [q_wf]
    have had : ∀ r l, r ≤ 99 * f + 1 → l ≤ 99 → q_ad r l ≤ 99 * (f + 1) + 1 := by
      intro r l h1 h2
      unfold q_ad
      split <;> omega
    by_cases c1 : a = b
    · rw [if_pos c1]; omega
    · rw [if_neg c1]
      by_cases c2 : b < a
      · rw [if_pos c2]
        by_cases c3 : q_pc A a = 0
        · rw [if_pos c3]; omega
        · rw [if_neg c3]; exact had _ _ (ih _ _) (q_pc_s hA c3).2.2.2.1
      · rw [if_neg c2]
        by_cases c3 : q_pc A b = 0
        · rw [if_pos c3]; omega
        · rw [if_neg c3]; exact had _ _ (ih _ _) (q_pc_s hA c3).2.2.2.1
theorem q_way_le {A : AP} (hA : WF A) {a b : Nat} : q_way A a b ≤ 1600 := by
  have := q_wf_le hA 16 a b
  unfold q_way
  omega
section WAR
variable {N t : Nat} {s : mst} {A : AP}
theorem r_ct (hN : 1000 ≤ N) (ht : t < 6) (hA : WF A) (hR : RP s t A) {x : Nat} (hx : x < 8) : G_M_comesTo N s (nI t) (nI x) = some (cd (q_pc A x), s) := r_comesTo (by omega) (by omega) hA.1 hA.2.1 hR.1 (by omega)
theorem r_up (hN : 1000 ≤ N) (ht : t < 6) (hA : WF A) (hR : RP s t A) {x : Nat} (hx : x < 8) : G_M_up N s (nI t) (nI x) = some (cd (if q_pc A x = 0 then 0 else q_pa A x + 1), s) := by
  have hc := hA.1
  unfold WFc at hc
  unfold G_M_up G_M_up_27
  rw [r_ct hN ht hA hR hx, Option.bind_some]
  dsimp only
  have hl : q_pc A x ≤ q_nc A := q_ff_lt _
  by_cases c : q_pc A x = 0
  · rw [c, if_pos cd_0, if_pos rfl, cd_0]
  · have hp := q_pc_s hA c
    obtain ⟨v, hv⟩ : ∃ v, q_pc A x = v + 1 := ⟨q_pc A x - 1, by omega⟩
    have hv1 : v < q_nc A := by omega
    rw [if_neg c, cd_s]
    unfold q_pa
    rw [hv, cd_s, if_neg (nI_n1 (by omega)), L_7, nI_mul, nI_add, rdA_nI (by omega) (by decide), Option.bind_some, rp_fr hR hv1, Nat.add_sub_cancel]
theorem r_upTo (hN : 1000 ≤ N) (ht : t < 6) (hA : WF A) (hR : RP s t A) {c : Nat} (hc8 : c < 8) : ∀ b far fuel, b < 8 → b < fuel → far + 99 * b < 2000 → G_M_upTo_6 N (nI t) (nI c) fuel (nI far) (nI b) s = some (cd (if q_U A b c = 0 then 0 else far + q_U A b c), s) := by
  have hc := hA.1
  unfold WFc at hc
  have key : ∀ n b far fuel, b < n → b < 8 → b < fuel → far + 99 * b < 2000 → G_M_upTo_6 N (nI t) (nI c) fuel (nI far) (nI b) s = some (cd (if q_U A b c = 0 then 0 else far + q_U A b c), s) := by
    intro n
    induction n with
    | zero => intro b far fuel h; omega
    | succ n ih =>
      intro b far fuel hbn hb8 hbf hfar
      obtain ⟨g, rfl⟩ : ∃ g, fuel = g + 1 := ⟨fuel - 1, by omega⟩
      show GB_M_upTo_6 N (G_M_upTo_6 N (nI t) (nI c) g) (nI t) (nI c) (nI far) (nI b) s = _
      unfold GB_M_upTo_6 G_M_upTo_58 G_M_upTo_27
      rw [q_U_eq hA]
      by_cases c1 : b = c
      · rw [if_pos (by rw [c1]), if_pos c1, if_neg (by omega), cd_s]
      · rw [if_neg (fun e => c1 ((nI_eq (by omega) (by omega)).mp e)), if_neg c1, r_ct hN ht hA hR hb8, Option.bind_some]
        dsimp only
        have hl : q_pc A b ≤ q_nc A := q_ff_lt _
        by_cases c2 : q_pc A b = 0
        · rw [c2, if_pos cd_0, if_pos rfl, if_pos rfl, cd_0]
        · have hp := q_pc_s hA c2
          obtain ⟨v, hv⟩ : ∃ v, q_pc A b = v + 1 := ⟨q_pc A b - 1, by omega⟩
          have hv1 : v < q_nc A := by omega
          have hln : s.1 92 (7 * t + v) = nI (q_pl A b) := by rw [rp_ln hR hv1]; unfold q_pl; rw [hv, Nat.add_sub_cancel]
          rw [if_neg c2, if_neg (show ¬ cd (q_pc A b) = -1 from fun e => c2 ((cd_n1 (by omega)).mp e)), show cd (q_pc A b) = nI v by rw [hv, cd_s], L_7, nI_mul, nI_add, rdA_nI (by omega) (by decide), Option.bind_some, hln, r_up hN ht hA hR hb8, Option.bind_some]
          dsimp only
          rw [if_neg c2, cd_s, nI_add, ih (q_pa A b) (far + q_pl A b) g (by omega) (by omega) (by omega) (by omega)]
          by_cases c3 : q_U A (q_pa A b) c = 0
          · rw [if_pos c3, if_pos (q_ad_0.mpr c3)]
          · rw [if_neg c3, if_neg (fun e => c3 (q_ad_0.mp e)), q_ad_s c3]
            congr 3
            omega
  intro b far fuel h1 h2 h3
  exact key (b + 1) b far fuel (by omega) h1 h2 h3
theorem q_U_b {A : AP} (hA : WF A) {c : Nat} : ∀ n b, b < n → q_U A b c ≤ 99 * b + 1 := by
  intro n
  induction n with
  | zero => intro b h; omega
  | succ n ih =>
    intro b h
    rw [q_U_eq hA]
    by_cases c1 : b = c
    · rw [if_pos c1]; omega
    · rw [if_neg c1]
      by_cases c3 : q_pc A b = 0
      · rw [if_pos c3]; omega
      · have hp := q_pc_s hA c3
        have := ih (q_pa A b) (by omega)
        rw [if_neg c3]
        unfold q_ad
        split <;> omega
theorem r_walkOf (hN : 1000 ≤ N) (ht : t < 6) (hA : WF A) (hR : RP s t A) {one other : Nat} (h1 : one < q_nb A) (h2 : other < q_nb A) : G_M_walkOf N s (nI t) (nI one) (nI other) = some (cd (q_way A one other), s) := by
  have hc := hA.1
  unfold WFc at hc
  have hup : ∀ x c, x < 8 → c < 8 → G_M_upTo N s (nI t) (nI x) (nI c) = some (cd (q_U A x c), s) := by
    intro x c hx hcc
    unfold G_M_upTo
    have := r_upTo hN ht hA hR hcc x 0 N hx (by omega) (by omega)
    rw [L_0, this]
    congr 3
    by_cases h : q_U A x c = 0
    · rw [if_pos h, h]
    · rw [if_neg h, Nat.zero_add]
  have key : ∀ n b fuel, b < n → b < 8 → b + 1 < fuel → q_U A one b ≠ 0 → G_M_walkOf_3 N (nI t) (nI one) (nI other) fuel (nI b) s = some (cd (q_kk A one other n b), s) := by
    intro n
    induction n with
    | zero => intro b fuel h; omega
    | succ n ih =>
      intro b fuel hbn hb8 hbf hu
      obtain ⟨g, rfl⟩ : ∃ g, fuel = g + 1 := ⟨fuel - 1, by omega⟩
      show GB_M_walkOf_3 N (G_M_walkOf_3 N (nI t) (nI one) (nI other) g) (nI t) (nI one) (nI other) (nI b) s = _
      have b1 := q_U_b hA (c := b) (other + 1) other (by omega)
      have b2 := q_U_b hA (c := b) (one + 1) one (by omega)
      unfold GB_M_walkOf_3 G_M_walkOf_25
      rw [if_neg (nI_n1 (by omega)), hup other b (by omega) hb8, Option.bind_some]
      dsimp only
      simp only [q_kk]
      by_cases c1 : q_U A other b = 0
      · rw [if_pos ((cd_n1 (by omega)).mpr c1), r_up hN ht hA hR hb8, Option.bind_some, if_neg (show ¬ q_U A other b ≠ 0 from fun h => h c1)]
        dsimp only
        by_cases c2 : q_pc A b = 0
        · rw [if_pos c2, if_pos c2]
          obtain ⟨g', rfl⟩ : ∃ g', g = g' + 1 := ⟨g - 1, by omega⟩
          rw [cd_0]
          show GB_M_walkOf_3 N (G_M_walkOf_3 N (nI t) (nI one) (nI other) g') (nI t) (nI one) (nI other) (-1) s = _
          unfold GB_M_walkOf_3 G_M_walkOf_49
          rw [if_pos rfl]
        · have hp := q_pc_s hA c2
          rw [if_neg c2, if_neg c2, cd_s]
          exact ih (q_pa A b) g (by omega) (by omega) (by omega) (q_U_pa hA c2 _ _ (Nat.lt_succ_self _) hu)
      · rw [if_neg (fun e => c1 ((cd_n1 (by omega)).mp e)), hup one b (by omega) hb8, Option.bind_some, if_pos c1]
        dsimp only
        obtain ⟨x, hx⟩ : ∃ x, q_U A other b = x + 1 := ⟨q_U A other b - 1, by omega⟩
        obtain ⟨y, hy⟩ : ∃ y, q_U A one b = y + 1 := ⟨q_U A one b - 1, by omega⟩
        rw [hx, hy, cd_s, cd_s, nI_add, show x + 1 + (y + 1) - 1 = (x + y) + 1 by omega, cd_s]
  unfold G_M_walkOf
  rw [key (one + 1) one N (by omega) (by omega) (by omega) (by rw [q_U_eq hA, if_pos rfl]; omega), q_kk_wf hA 16 one other (by omega)]
  rfl
end WAR
section WAC
variable {h0 : Nat → pm_C} {B : Nat} {D : Nat → pd} {hi z : Nat} {s : mst} {N P : Nat} {A : AP}
theorem c_way_t (hN : 1000 ≤ N) (hp : PL D hi P) (h : CP s P A) (hA : WF A) {a b : Nat} (ha : a < q_nb A) (hb : b < q_nb A) : F_Plan_way N (mkM h0 B D hi z s) (B + P) (nI a) (nI b) = some (cd (q_way A a b), (mkM h0 B D hi z s)) := by
  have hc := hA.1
  unfold WFc at hc
  have mn : ∀ x y, x < 8 → y < 8 → (if nI x < nI y then nI x else nI y) = nI (min x y) := by
    intro x y hx hy
    by_cases c : x < y
    · rw [if_pos (nI_lt c (by omega)), Nat.min_eq_left (by omega)]
    · rw [if_neg (nI_nlt (by omega) (by omega)), Nat.min_eq_right (by omega)]
  have mx : ∀ x y, x < 8 → y < 8 → (if nI y < nI x then nI x else nI y) = nI (max x y) := by
    intro x y hx hy
    by_cases c : y < x
    · rw [if_pos (nI_lt c (by omega)), Nat.max_eq_left (by omega)]
    · rw [if_neg (nI_nlt (by omega) (by omega)), Nat.max_eq_right (by omega)]
  have hmm : ∀ f x y, q_wf A f (min x y) (max x y) = q_wf A f x y := by
    intro f x y
    by_cases c : x ≤ y
    · rw [Nat.min_eq_left c, Nat.max_eq_right c]
    · rw [Nat.min_eq_right (by omega), Nat.max_eq_left (by omega), q_wf_sym]
  have key : ∀ n u v far k fuel, u + v < n → u ≤ v → v < q_nb A → u + v < fuel → k + u + v < 16 → far + 99 * (u + v) < 3000 → F_Plan_way_37 N (B + P) fuel (nI u) (nI v) (nI far) (nI k) (mkM h0 B D hi z s) = some (cd (if q_wf A n u v = 0 then 0 else far + q_wf A n u v), (mkM h0 B D hi z s)) := by
    intro n
    induction n with
    | zero => intro u v far k fuel h; omega
    | succ n ih =>
      intro u v far k fuel hn huv hv hf hk hfar
      obtain ⟨g, rfl⟩ : ∃ g, fuel = g + 1 := ⟨fuel - 1, by omega⟩
      show B_Plan_way_37 N (F_Plan_way_37 N (B + P) g) (B + P) (nI u) (nI v) (nI far) (nI k) (mkM h0 B D hi z s) = _
      unfold B_Plan_way_37 F_Plan_way_107 F_Plan_way_64
      rw [L_16, if_neg (nI_ge (by omega) (by omega))]
      have hw : q_wf A (n + 1) u v = if u = v then 1 else if q_pc A v = 0 then 0 else q_ad (q_wf A n u (q_pa A v)) (q_pl A v) := by
        simp only [q_wf]
        rw [if_neg (show ¬ v < u by omega)]
      rw [hw]
      by_cases c1 : u = v
      · rw [if_pos (by rw [c1]), if_pos c1, if_neg (by omega), cd_s]
      · rw [if_neg (fun e => c1 ((nI_eq (by omega) (by omega)).mp e)), if_neg c1, c_cableTo_t hp h hA hv]
        dsimp only [Option.bind_some]
        have hl : q_pc A v ≤ q_nc A := q_ff_lt _
        show (if cd (q_pc A v) = -1 then _ else _) = _
        by_cases c2 : q_pc A v = 0
        · rw [if_pos c2, if_pos ((cd_n1 (by omega)).mpr c2), if_pos rfl, cd_0]
        · have hpc := q_pc_s hA c2
          obtain ⟨e, he⟩ : ∃ e, q_pc A v = e + 1 := ⟨q_pc A v - 1, by omega⟩
          have e1 : e < q_nc A := by omega
          have hpa : q_pa A v = q_fr A e := by unfold q_pa; rw [he, Nat.add_sub_cancel]
          have hpl : q_pl A v = q_ln A e := by unfold q_pl; rw [he, Nat.add_sub_cancel]
          rw [if_neg c2, if_neg (show ¬ cd (q_pc A v) = -1 from fun x => c2 ((cd_n1 (by omega)).mp x)), show cd (q_ff (q_tb A) v (q_nc A)) = nI e from by show cd (q_pc A v) = _; rw [he, cd_s], c_lengthOf hp h hA e1]
          dsimp only [Option.bind_some]
          rw [L_0, c_boxAt hp h hA e1 (by omega)]
          dsimp only [Option.bind_some]
          rw [if_pos rfl, ← hpa, ← hpl, mn u (q_pa A v) (by omega) (by omega), mx u (q_pa A v) (by omega) (by omega), L_1, nI_add, nI_add, ih (min u (q_pa A v)) (max u (q_pa A v)) (far + q_pl A v) (k + 1) g (by omega) (by omega) (by omega) (by omega) (by omega) (by omega), hmm]
          by_cases c3 : q_wf A n u (q_pa A v) = 0
          · rw [if_pos c3, if_pos (q_ad_0.mpr c3)]
          · rw [if_neg c3, if_neg (fun e => c3 (q_ad_0.mp e)), q_ad_s c3]
            congr 3
            omega
  unfold F_Plan_way
  rw [pl_rc hp, if_pos rfl, c_hasBox_t hp h hA ha]
  dsimp only [Option.bind_some]
  rw [if_neg i10, c_hasBox_t hp h hA hb]
  dsimp only [Option.bind_some]
  rw [if_neg i10, mn b a (by omega) (by omega), mx b a (by omega) (by omega), L_0, key 16 (min b a) (max b a) 0 0 N (by omega) (by omega) (by omega) (by omega) (by omega) (by omega), hmm, q_wf_sym]
  unfold q_way
  by_cases c : q_wf A 16 a b = 0
  · rw [if_pos c, c]
  · rw [if_neg c, Nat.zero_add]
theorem c_way_1 (hp : PL D hi P) (h : CP s P A) (hA : WF A) {i j : Int32} (hi2 : ¬ okn (q_nb A) i) : F_Plan_way N (mkM h0 B D hi z s) (B + P) i j = some (-1, (mkM h0 B D hi z s)) := by
  unfold F_Plan_way F_Plan_way_16
  rw [pl_rc hp, if_pos rfl, c_hasBox_f hp h hA hi2]
  dsimp only [Option.bind_some]
  rw [if_pos rfl]
theorem c_way_2 (hp : PL D hi P) (h : CP s P A) (hA : WF A) {a : Nat} {j : Int32} (ha : a < q_nb A) (hj : ¬ okn (q_nb A) j) : F_Plan_way N (mkM h0 B D hi z s) (B + P) (nI a) j = some (-1, (mkM h0 B D hi z s)) := by
  unfold F_Plan_way F_Plan_way_16
  rw [pl_rc hp, if_pos rfl, c_hasBox_t hp h hA ha]
  dsimp only [Option.bind_some]
  rw [if_neg i10, c_hasBox_f hp h hA hj]
  dsimp only [Option.bind_some]
  rw [if_pos rfl]
end WAC
