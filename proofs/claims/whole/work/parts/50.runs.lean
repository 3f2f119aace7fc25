/-! ===== runs without a count; reads and writes that may fail; a row for each instruction that is no plain step ===== -/
def pmE (G : pm_G) (call : pm_I → List Value → pm_S → pm_O → Prop) (mi : pm_I) (pc : Nat) (ls : pm_L) (st : List Value) (S : pm_S) (out : pm_O) : Prop := ∃ n, pm_ev G call mi n pc ls st S out
/-- an int field -/
def oI (S : pm_S) (a ci k : Nat) : Option Int32 := match ps_h S a with
  | .inr (cj, fs) => if pm_my S a && decide (cj = ci) then (match fs[k]? with
    | some (.int x) => some x
    | _ => none) else none
  | _ => none
/-- a field that is a reference -/
def oR (S : pm_S) (a ci k : Nat) : Option (Option Nat) := match ps_h S a with
  | .inr (cj, fs) => if pm_my S a && decide (cj = ci) then (match fs[k]? with
    | some (.ref x) => some (some x)
    | some .null => some none
    | _ => none) else none
  | _ => none
def wF (S : pm_S) (a ci k : Nat) (ty : FieldType) (v : Value) : Option pm_S := match ps_h S a with
  | .inr (cj, fs) => if pm_my S a && decide (cj = ci) && pm_fit ty v && decide (k < fs.length) then some (pm_wr S a (.inr (ci, fs.set k v))) else none
  | _ => none
def aI (ts : List Nat) (S : pm_S) (a : Nat) (i : Int32) : Option Int32 := match ps_h S a with
  | .inl (t, n, .inl f) => if ts.contains t && (pm_my S a || decide (t = 6)) && pm_in i n then some (f i.toNatClampNeg) else none
  | _ => none
def aJ (S : pm_S) (a : Nat) (i : Int32) : Option Int64 := match ps_h S a with
  | .inl (t, n, .inr (.inl f)) => if decide (t = 1) && pm_my S a && pm_in i n then some (f i.toNatClampNeg) else none
  | _ => none
def aQ (S : pm_S) (a : Nat) (i : Int32) : Option (Option Nat) := match ps_h S a with
  | .inl (t, n, .inr (.inr (.inr (.inr f)))) => if (decide (t = 4) || decide (t = 5)) && pm_my S a && pm_in i n then some (f i.toNatClampNeg) else none
  | _ => none
def sI (ts : List Nat) (S : pm_S) (a : Nat) (i x : Int32) : Option pm_S := match ps_h S a with
  | .inl (t, n, .inl f) => if ts.contains t && pm_my S a && pm_in i n then some (pm_wr S a (.inl (t, n, .inl (upd f i.toNatClampNeg (pm_nar t x))))) else none
  | _ => none
def sJ (S : pm_S) (a : Nat) (i : Int32) (x : Int64) : Option pm_S := match ps_h S a with
  | .inl (t, n, .inr (.inl f)) => if decide (t = 1) && pm_my S a && pm_in i n then some (pm_wr S a (.inl (t, n, .inr (.inl (vp_updL f i.toNatClampNeg x))))) else none
  | _ => none
def sQ (S : pm_S) (a : Nat) (i : Int32) (v : Nat) : Option pm_S := match ps_h S a with
  | .inl (t, n, .inr (.inr (.inr (.inr f)))) => if pm_my S a && pm_my S v && pm_in i n && pm_okv 4 t (ps_h S v) then some (pm_wr S a (.inl (t, n, .inr (.inr (.inr (.inr (va_up f i.toNatClampNeg (some v)))))))) else none
  | _ => none
/-- an array's length -/
def aN (S : pm_S) (a : Nat) : Option Int32 := match ps_h S a with
  | .inl (t, n, _) => if (pm_my S a && decide (t < 6)) then some (Int32.ofNat n) else none
  | _ => none
def aNS (S : pm_S) (a : Nat) : Option Int32 := match ps_h S a with
  | .inl (t, n, .inl _) => if decide (t = 6) then some (Int32.ofNat n) else aN S a
  | _ => aN S a
def nA (S : pm_S) (t : Nat) (n : Int32) : Option (Nat × pm_S) := if decide (¬ n < 0) && decide (n.toNatClampNeg ≤ 65536) then some (ps_hi S, pm_al S n.toNatClampNeg (pm_zero t n.toNatClampNeg)) else none
def cP (S : pm_S) (a0 : Nat) (sp : Int32) (a : Nat) (dp n : Int32) : Option pm_S := match ps_h S a0, ps_h S a with
  | .inl (t0, n0, .inl f), .inl (t1, n1, .inl g) => if decide (t0 = 0) && decide (t1 = 0) && pm_my S a0 && pm_my S a && decide (¬ sp < 0) && decide (¬ dp < 0) && decide (¬ n < 0) && decide (sp.toNatClampNeg + n.toNatClampNeg ≤ n0) && decide (dp.toNatClampNeg + n.toNatClampNeg ≤ n1)
      then some (pm_wr S a (.inl (0, n1, .inl (va_cpy f g sp.toNatClampNeg dp.toNatClampNeg n.toNatClampNeg)))) else none
  | _, _ => none
/-- the cell is an object of the class -/
def rcv (S : pm_S) (a ci : Nat) : Bool := match ps_h S a with
  | .inr (cj, _) => pm_my S a && decide (cj = ci)
  | _ => false
theorem obind {α β : Type} {o : Option α} {f : α → Option β} {b : β} (h : o.bind f = some b) : ∃ a, o = some a ∧ f a = some b := Option.bind_eq_some_iff.mp h
section PE
variable {G : pm_G} {call : pm_I → List Value → pm_S → pm_O → Prop} {mi : pm_I} {pc pc' : Nat} {ls ls' : pm_L} {st st' : List Value} {S S' : pm_S} {out : pm_O}
theorem pE_jump (k : Nat) (h : ∀ n, pm_ev G call mi (n + k) pc ls st S out = pm_ev G call mi n pc' ls' st' S out) (e : pmE G call mi pc' ls' st' S out) : pmE G call mi pc ls st S out := by
  obtain ⟨n, hn⟩ := e
  exact ⟨n + k, by rw [h n]; exact hn⟩
theorem pE_nx {i : Instr} (hi : pm_at mi pc = some i) (hs : pm_stp G mi pc i ls st S = some (.inl (pc', ls', st', S'))) (e : pmE G call mi pc' ls' st' S' out) : pmE G call mi pc ls st S out := by
  obtain ⟨n, hn⟩ := e
  refine ⟨n + 1, ?_⟩
  simp only [pm_ev, hi, hs]
  exact hn
theorem pE_br {i : Instr} {p1 p2 : Nat} (P : Prop) {dp : Decidable P} (hi : pm_at mi pc = some i) (hs : pm_stp G mi pc i ls st S = some (.inr (.inl (decide P, p1, p2, st')))) (e1 : P → pmE G call mi p1 ls st' S out) (e2 : ¬ P → pmE G call mi p2 ls st' S out) : pmE G call mi pc ls st S out := by
  by_cases hP : P
  · obtain ⟨n, hn⟩ := e1 hP
    refine ⟨n + 1, ?_⟩
    simp only [pm_ev, hi, hs, hP, decide_true, if_true]
    exact hn
  · obtain ⟨n, hn⟩ := e2 hP
    refine ⟨n + 1, ?_⟩
    simp only [pm_ev, hi, hs, hP, decide_false, Bool.false_eq_true, if_false]
    exact hn
theorem pE_call {i : Instr} {mj : pm_I} {As : List Value} {r : Option Value} (hi : pm_at mi pc = some i) (hs : pm_stp G mi pc i ls st S = some (.inr (.inr (.inl (mj, As, st'))))) (hc : call mj As S (r, S')) (e : pmE G call mi (pc + 3) ls (r.toList ++ st') S' out) : pmE G call mi pc ls st S out := by
  obtain ⟨n, hn⟩ := e
  refine ⟨n + 1, ?_⟩
  simp only [pm_ev, hi, hs]
  exact ⟨r, S', hc, hn⟩
theorem pE_ret {i : Instr} {v : Option Value} (hi : pm_at mi pc = some i) (hs : pm_stp G mi pc i ls st S = some (.inr (.inr (.inr v)))) (ho : out = (v, S)) : pmE G call mi pc ls st S out := by
  refine ⟨1, ?_⟩
  simp only [pm_ev, hi, hs]
  exact ho
theorem pE_gfI {idx ci k a : Nat} {ty : FieldType} {fin : Bool} {x : Int32} (hi : pm_at mi pc = some (.getfield idx)) (hf : pg_f G (pi_co mi) idx = some (ci, k, ty, fin)) (h : oI S a ci k = some x) (e : pmE G call mi (pc + 3) ls (.int x :: st) S out) : pmE G call mi pc ls (.ref a :: st) S out := by
  refine pE_nx hi ?_ e
  show (match pg_f G (pi_co mi) idx with
    | some (ci, j, _, _) => pm_gf ci j (pc + 3) ls (.ref a :: st) S
    | none => none) = _
  rw [hf]
  show pm_gf ci k (pc + 3) ls (.ref a :: st) S = _
  unfold oI at h
  unfold pm_gf
  dsimp only
  split at h
  · rename_i cj fs hc
    rw [hc]
    split at h
    · rename_i hm
      dsimp only
      rw [if_pos hm]
      split at h
      · rename_i y hy
        rw [hy]
        cases h
        rfl
      · cases h
    · cases h
  · cases h
theorem pE_gfR {idx ci k a : Nat} {ty : FieldType} {fin : Bool} {r : Option Nat} (hi : pm_at mi pc = some (.getfield idx)) (hf : pg_f G (pi_co mi) idx = some (ci, k, ty, fin)) (h : oR S a ci k = some r) (e : pmE G call mi (pc + 3) ls (va_rf r :: st) S out) : pmE G call mi pc ls (.ref a :: st) S out := by
  refine pE_nx hi ?_ e
  show (match pg_f G (pi_co mi) idx with
    | some (ci, j, _, _) => pm_gf ci j (pc + 3) ls (.ref a :: st) S
    | none => none) = _
  rw [hf]
  show pm_gf ci k (pc + 3) ls (.ref a :: st) S = _
  unfold oR at h
  unfold pm_gf
  dsimp only
  split at h
  · rename_i cj fs hc
    rw [hc]
    split at h
    · rename_i hm
      dsimp only
      rw [if_pos hm]
      split at h
      · rename_i y hy
        rw [hy]
        cases h
        rfl
      · rename_i hy
        rw [hy]
        cases h
        rfl
      · cases h
    · cases h
  · cases h
theorem pE_pf {idx ci k a : Nat} {ty : FieldType} {fin : Bool} {v : Value} (hi : pm_at mi pc = some (.putfield idx)) (hf : pg_f G (pi_co mi) idx = some (ci, k, ty, fin)) (hfin : ((!fin) || (pi_in mi && decide (ci = pi_co mi))) = true) (h : wF S a ci k ty v = some S') (e : pmE G call mi (pc + 3) ls st S' out) : pmE G call mi pc ls (v :: .ref a :: st) S out := by
  refine pE_nx hi ?_ e
  show (match pg_f G (pi_co mi) idx with
    | some (ci, j, ty, fin) => if (!fin) || (pi_in mi && decide (ci = pi_co mi)) then pm_pf ci j ty (pc + 3) ls (v :: .ref a :: st) S else none
    | none => none) = _
  rw [hf]
  dsimp only
  rw [if_pos hfin]
  unfold wF at h
  unfold pm_pf
  dsimp only
  split at h
  · rename_i cj fs hc
    rw [hc]
    split at h
    · rename_i hm
      dsimp only
      rw [if_pos hm]
      cases h
      rfl
    · cases h
  · cases h
theorem pE_aI {ts : List Nat} {i : Instr} {a : Nat} {j x : Int32} (hi : pm_at mi pc = some i) (hs : pm_stp G mi pc i ls (.int j :: .ref a :: st) S = pm_ai ts (pc + 1) ls (.int j :: .ref a :: st) S) (h : aI ts S a j = some x) (e : pmE G call mi (pc + 1) ls (.int x :: st) S out) : pmE G call mi pc ls (.int j :: .ref a :: st) S out := by
  refine pE_nx hi ?_ e
  rw [hs]
  unfold aI at h
  unfold pm_ai
  dsimp only
  split at h
  · rename_i t n f hc
    rw [hc]
    split at h
    · rename_i hm
      dsimp only
      rw [if_pos hm]
      cases h
      rfl
    · cases h
  · cases h
theorem pE_aJ {a : Nat} {j : Int32} {x : Int64} (hi : pm_at mi pc = some .laload) (h : aJ S a j = some x) (e : pmE G call mi (pc + 1) ls (.long x :: st) S out) : pmE G call mi pc ls (.int j :: .ref a :: st) S out := by
  refine pE_nx hi ?_ e
  show pm_aj (pc + 1) ls (.int j :: .ref a :: st) S = _
  unfold aJ at h
  unfold pm_aj
  dsimp only
  split at h
  · rename_i t n f hc
    rw [hc]
    split at h
    · rename_i hm
      dsimp only
      rw [if_pos hm]
      cases h
      rfl
    · cases h
  · cases h
theorem pE_aQ {a : Nat} {j : Int32} {r : Option Nat} (hi : pm_at mi pc = some .aaload) (h : aQ S a j = some r) (e : pmE G call mi (pc + 1) ls (va_rf r :: st) S out) : pmE G call mi pc ls (.int j :: .ref a :: st) S out := by
  refine pE_nx hi ?_ e
  show pm_aq (pc + 1) ls (.int j :: .ref a :: st) S = _
  unfold aQ at h
  unfold pm_aq
  dsimp only
  split at h
  · rename_i t n f hc
    rw [hc]
    split at h
    · rename_i hm
      dsimp only
      rw [if_pos hm]
      cases h
      rfl
    · cases h
  · cases h
theorem pE_sI {ts : List Nat} {i : Instr} {a : Nat} {j x : Int32} (hi : pm_at mi pc = some i) (hs : pm_stp G mi pc i ls (.int x :: .int j :: .ref a :: st) S = pm_si ts (pc + 1) ls (.int x :: .int j :: .ref a :: st) S) (h : sI ts S a j x = some S') (e : pmE G call mi (pc + 1) ls st S' out) : pmE G call mi pc ls (.int x :: .int j :: .ref a :: st) S out := by
  refine pE_nx hi ?_ e
  rw [hs]
  unfold sI at h
  unfold pm_si
  dsimp only
  split at h
  · rename_i t n f hc
    rw [hc]
    split at h
    · rename_i hm
      dsimp only
      rw [if_pos hm]
      cases h
      rfl
    · cases h
  · cases h
theorem pE_sJ {a : Nat} {j : Int32} {x : Int64} (hi : pm_at mi pc = some .lastore) (h : sJ S a j x = some S') (e : pmE G call mi (pc + 1) ls st S' out) : pmE G call mi pc ls (.long x :: .int j :: .ref a :: st) S out := by
  refine pE_nx hi ?_ e
  show pm_sj (pc + 1) ls (.long x :: .int j :: .ref a :: st) S = _
  unfold sJ at h
  unfold pm_sj
  dsimp only
  split at h
  · rename_i t n f hc
    rw [hc]
    split at h
    · rename_i hm
      dsimp only
      rw [if_pos hm]
      cases h
      rfl
    · cases h
  · cases h
theorem pE_sQ {a v : Nat} {j : Int32} (hi : pm_at mi pc = some .aastore) (h : sQ S a j v = some S') (e : pmE G call mi (pc + 1) ls st S' out) : pmE G call mi pc ls (.ref v :: .int j :: .ref a :: st) S out := by
  refine pE_nx hi ?_ e
  show pm_sq 4 (pc + 1) ls (.ref v :: .int j :: .ref a :: st) S = _
  unfold sQ at h
  unfold pm_sq
  dsimp only
  split at h
  · rename_i t n f hc
    rw [hc]
    split at h
    · rename_i hm
      dsimp only
      rw [if_pos hm]
      cases h
      rfl
    · cases h
  · cases h
theorem pm_len_aN {a : Nat} {x : Int32} (h : aN S a = some x) : pm_len (pc + 1) ls (.ref a :: st) S = some (.inl (pc + 1, ls, .int x :: st, S)) := by
  unfold aN at h
  unfold pm_len
  dsimp only
  split at h
  · rename_i t n f hc
    rw [hc]
    split at h
    · rename_i hm
      dsimp only
      rw [if_pos hm]
      cases h
      rfl
    · cases h
  · cases h
theorem pE_aN {a : Nat} {x : Int32} (hi : pm_at mi pc = some .arraylength) (h : aNS S a = some x) (e : pmE G call mi (pc + 1) ls (.int x :: st) S out) : pmE G call mi pc ls (.ref a :: st) S out := by
  refine pE_nx hi ?_ e
  show pm_lenS (pc + 1) ls (.ref a :: st) S = _
  unfold aNS at h
  unfold pm_lenS
  dsimp only
  split at h
  · rename_i t n f hc
    rw [hc]
    dsimp only
    split at h
    · rename_i ht
      rw [if_pos ht]
      cases h
      rfl
    · rename_i ht
      rw [if_neg ht]
      exact pm_len_aN h
  · rename_i hc
    split
    · rename_i t n f hc2
      exact absurd hc2 (hc t n f)
    · exact pm_len_aN h
theorem pE_nA {t : ArrayType} {k a : Nat} {n : Int32} (hi : pm_at mi pc = some (.newarray t)) (hk : pm_kind t = some k) (h : nA S k n = some (a, S')) (e : pmE G call mi (pc + 2) ls (.ref a :: st) S' out) : pmE G call mi pc ls (.int n :: st) S out := by
  refine pE_nx hi ?_ e
  show (match pm_kind t with
    | some k => pm_newa k (pc + 2) ls (.int n :: st) S
    | none => none) = _
  rw [hk]
  unfold nA at h
  unfold pm_newa
  dsimp only
  split at h
  · rename_i hm
    rw [if_pos hm]
    cases h
    rfl
  · cases h
theorem pE_nQ {k t a : Nat} {n : Int32} (hi : pm_at mi pc = some (.anewarray k)) (hq : pg_q G (pi_co mi) k = some t) (ht : t = 4 ∨ t = 5) (h : nA S t n = some (a, S')) (e : pmE G call mi (pc + 3) ls (.ref a :: st) S' out) : pmE G call mi pc ls (.int n :: st) S out := by
  refine pE_nx hi ?_ e
  show (match pg_q G (pi_co mi) k with
    | some t => if t = 4 ∨ t = 5 then pm_newa t (pc + 3) ls (.int n :: st) S else none
    | none => none) = _
  rw [hq]
  dsimp only
  rw [if_pos ht]
  unfold nA at h
  unfold pm_newa
  dsimp only
  split at h
  · rename_i hm
    rw [if_pos hm]
    cases h
    rfl
  · cases h
theorem pE_new {k ci : Nat} {fs : List Value} (hi : pm_at mi pc = some (.new k)) (hn : pg_n G (pi_co mi) k = some (ci, fs)) (e : pmE G call mi (pc + 3) ls (.ref (ps_hi S) :: st) (pm_al S fs.length (.inr (ci, fs))) out) : pmE G call mi pc ls st S out := by
  refine pE_nx hi ?_ e
  show (match pg_n G (pi_co mi) k with
    | some (ci, fs) => pm_nx (pc + 3) ls (.ref (ps_hi S) :: st) (pm_al S fs.length (.inr (ci, fs)))
    | none => none) = _
  rw [hn]
  rfl
theorem pm_inv_eq {md : Nat → Bool} {k q : Nat} {mj : pm_I} {X : Option pm_X} (hl : pg_m G (pi_co mi) k = some (mj, q)) (h : (match (some (mj, q) : Option (pm_I × Nat)) with
  | some (mj, 0) => if md 0 && decide (pi_na mj ≤ st.length) && decide (((st.drop (pi_na mj)).map fun v => v.category).sum ≤ 8) && decide ((lg_sl (st.take (pi_na mj)).reverse).length ≤ pi_L mj) then some (.inr (.inr (.inl (mj, (st.take (pi_na mj)).reverse, st.drop (pi_na mj))))) else none
  | some (mj, 3) => if md 3 then (match st with
    | .ref a :: r => if decide ((r.map fun v => v.category).sum ≤ 8) && pm_my S a then pm_nx pc ls r S else none
    | _ => none) else none
  | some (_, 4) => if md 4 then pm_cpy pc ls st S else none
  | some (_, 5) => if md 5 then pm_mx (fun x y => if x < y then y else x) pc ls st S else none
  | some (_, 6) => if md 6 then pm_mx (fun x y => if y < x then y else x) pc ls st S else none
  | some (_, 7) => if md 7 then pm_mb pc ls st S else none
  | some (mj, 8) => if md 8 && decide (pi_na mj ≤ st.length) && decide (((st.drop (pi_na mj)).map fun v => v.category).sum ≤ 8) && decide ((lg_sl (st.take (pi_na mj)).reverse).length ≤ pi_L mj) then some (.inr (.inr (.inl (mj, (st.take (pi_na mj)).reverse, st.drop (pi_na mj))))) else none
  | some (mj, q) => if md q && decide (pi_na mj + 1 ≤ st.length) && decide (((st.drop (pi_na mj + 1)).map fun v => v.category).sum ≤ 8) && decide ((lg_sl (st.take (pi_na mj + 1)).reverse).length ≤ pi_L mj) then (match st.drop (pi_na mj) with
    | .ref a :: r => match ps_h S a with
      | .inr (cj, _) => if pm_my S a && (decide (cj = pi_co mj)) then some (.inr (.inr (.inl (mj, .ref a :: (st.take (pi_na mj)).reverse, r)))) else none
      | _ => none
    | _ => none) else none
  | none => none) = X) : pm_inv G mi k md pc ls st S = X := by
  rw [← h, ← hl]
  rfl
theorem pE_obj {k a : Nat} {mj : pm_I} (hi : pm_at mi pc = some (.invokespecial k)) (hl : pg_m G (pi_co mi) k = some (mj, 3)) (h8 : (st.map fun v => v.category).sum ≤ 8) (hm : pm_my S a = true) (e : pmE G call mi (pc + 3) ls st S out) : pmE G call mi pc ls (.ref a :: st) S out := by
  refine pE_nx hi ?_ e
  show pm_inv G mi k (fun q => q == 2 || q == 3) (pc + 3) ls (.ref a :: st) S = _
  refine pm_inv_eq hl ?_
  show (if decide ((st.map fun v => v.category).sum ≤ 8) && pm_my S a then pm_nx (pc + 3) ls st S else none) = _
  rw [if_pos (by rw [hm]; simpa using h8)]
  rfl
theorem pE_cP {k a a0 : Nat} {mj : pm_I} {sp dp n : Int32} (hi : pm_at mi pc = some (.invokestatic k)) (hl : pg_m G (pi_co mi) k = some (mj, 4)) (h8 : (st.map fun v => v.category).sum ≤ 4) (h : cP S a0 sp a dp n = some S') (e : pmE G call mi (pc + 3) ls st S' out) : pmE G call mi pc ls (.int n :: .int dp :: .ref a :: .int sp :: .ref a0 :: st) S out := by
  refine pE_nx hi ?_ e
  show pm_inv G mi k (fun q => q == 0 || 4 ≤ q) (pc + 3) ls (.int n :: .int dp :: .ref a :: .int sp :: .ref a0 :: st) S = _
  refine pm_inv_eq hl ?_
  show pm_cpy (pc + 3) ls (.int n :: .int dp :: .ref a :: .int sp :: .ref a0 :: st) S = _
  unfold cP at h
  unfold pm_cpy
  dsimp only
  split at h
  · rename_i t0 n0 f t1 n1 g hc0 hc1
    rw [hc0, hc1]
    dsimp only
    split at h
    · rename_i hm
      rw [if_pos (by rw [hm]; simpa using h8)]
      cases h
      rfl
    · cases h
  · cases h
theorem pE_mx {k : Nat} {mj : pm_I} {x y : Int32} (q : Nat) (hi : pm_at mi pc = some (.invokestatic k)) (hl : pg_m G (pi_co mi) k = some (mj, q)) (h8 : (st.map fun v => v.category).sum ≤ 8) (hq : q = 5) (e : pmE G call mi (pc + 3) ls (.int (if x < y then y else x) :: st) S out) : pmE G call mi pc ls (.int y :: .int x :: st) S out := by
  subst hq
  refine pE_nx hi ?_ e
  show pm_inv G mi k (fun q => q == 0 || 4 ≤ q) (pc + 3) ls (.int y :: .int x :: st) S = _
  refine pm_inv_eq hl ?_
  show pm_mx (fun x y => if x < y then y else x) (pc + 3) ls (.int y :: .int x :: st) S = _
  unfold pm_mx
  dsimp only
  rw [if_pos h8]
  rfl
theorem pE_mn {k : Nat} {mj : pm_I} {x y : Int32} (hi : pm_at mi pc = some (.invokestatic k)) (hl : pg_m G (pi_co mi) k = some (mj, 6)) (h8 : (st.map fun v => v.category).sum ≤ 8) (e : pmE G call mi (pc + 3) ls (.int (if y < x then y else x) :: st) S out) : pmE G call mi pc ls (.int y :: .int x :: st) S out := by
  refine pE_nx hi ?_ e
  show pm_inv G mi k (fun q => q == 0 || 4 ≤ q) (pc + 3) ls (.int y :: .int x :: st) S = _
  refine pm_inv_eq hl ?_
  show pm_mx (fun x y => if y < x then y else x) (pc + 3) ls (.int y :: .int x :: st) S = _
  unfold pm_mx
  dsimp only
  rw [if_pos h8]
  rfl
theorem pE_mb {k : Nat} {mj : pm_I} {x : Int32} (hi : pm_at mi pc = some (.invokestatic k)) (hl : pg_m G (pi_co mi) k = some (mj, 7)) (h8 : (st.map fun v => v.category).sum ≤ 8) (e : pmE G call mi (pc + 3) ls (.int (if 0 ≤ x then x else 0 - x) :: st) S out) : pmE G call mi pc ls (.int x :: st) S out := by
  refine pE_nx hi ?_ e
  show pm_inv G mi k (fun q => q == 0 || 4 ≤ q) (pc + 3) ls (.int x :: st) S = _
  refine pm_inv_eq hl ?_
  show pm_mb (pc + 3) ls (.int x :: st) S = _
  unfold pm_mb
  dsimp only
  rw [if_pos h8]
  rfl
/-- a call of an object's method (mode 1) or of a constructor (mode 2) -/
theorem pE_iv {k a : Nat} {i : Instr} {mj : pm_I} {Bs : List Value} {r : Option Value} (q : Nat) (hi : pm_at mi pc = some i) (hq : (q = 1 ∧ i = .invokevirtual k) ∨ (q = 2 ∧ i = .invokespecial k)) (hl : pg_m G (pi_co mi) k = some (mj, q)) (hn : Bs.length = pi_na mj) (h8 : (st.map fun v => v.category).sum ≤ 8) (hL : (lg_sl (.ref a :: Bs)).length ≤ pi_L mj) (hr : rcv S a (pi_co mj) = true) (hc : call mj (.ref a :: Bs) S (r, S'))
    (e : pmE G call mi (pc + 3) ls (r.toList ++ st) S' out) : pmE G call mi pc ls (Bs.reverse ++ .ref a :: st) S out := by
  have hb : Bs.reverse.length = pi_na mj := by rw [List.length_reverse]; exact hn
  have h1 : (Bs.reverse ++ .ref a :: st).drop (pi_na mj) = .ref a :: st := by rw [← hb, List.drop_left]
  have h2 : (Bs.reverse ++ .ref a :: st).take (pi_na mj) = Bs.reverse := by rw [← hb, List.take_left]
  have h3 : (Bs.reverse ++ .ref a :: st).drop (pi_na mj + 1) = st := by rw [← List.drop_drop, h1]; rfl
  have h4 : (Bs.reverse ++ .ref a :: st).take (pi_na mj + 1) = Bs.reverse ++ [.ref a] := by
    rw [show Bs.reverse ++ Value.ref a :: st = (Bs.reverse ++ [.ref a]) ++ st by simp]
    rw [show pi_na mj + 1 = (Bs.reverse ++ [Value.ref a]).length by simp [hn], List.take_left]
  have key : ∀ md : Nat → Bool, md q = true → pm_inv G mi k md (pc + 3) ls (Bs.reverse ++ .ref a :: st) S = some (.inr (.inr (.inl (mj, .ref a :: Bs, st)))) := by
    intro md hmd
    refine pm_inv_eq hl ?_
    unfold rcv at hr
    split at hr
    · rename_i cj fs hcell
      have big : (if md q && decide (pi_na mj + 1 ≤ (Bs.reverse ++ .ref a :: st).length) && decide ((((Bs.reverse ++ .ref a :: st).drop (pi_na mj + 1)).map fun v => v.category).sum ≤ 8) && decide ((lg_sl ((Bs.reverse ++ .ref a :: st).take (pi_na mj + 1)).reverse).length ≤ pi_L mj) then (match (Bs.reverse ++ .ref a :: st).drop (pi_na mj) with
          | .ref b :: r => match ps_h S b with
            | .inr (cj, _) => if pm_my S b && (decide (cj = pi_co mj)) then some (.inr (.inr (.inl (mj, .ref b :: ((Bs.reverse ++ .ref a :: st).take (pi_na mj)).reverse, r)))) else none
            | _ => none
          | _ => none) else none : Option pm_X) = some (.inr (.inr (.inl (mj, .ref a :: Bs, st)))) := by
        have hlen : pi_na mj + 1 ≤ (Bs.reverse ++ .ref a :: st).length := by
          rw [List.length_append, hb, List.length_cons]; omega
        have hL' : (lg_sl ((Bs.reverse ++ [Value.ref a]).reverse)).length ≤ pi_L mj := by
          rw [List.reverse_append, List.reverse_reverse]; exact hL
        rw [h3, h4, h1]
        rw [if_pos (by rw [hmd]; simp only [Bool.true_and, Bool.and_eq_true, decide_eq_true_eq]; exact ⟨⟨hlen, h8⟩, hL'⟩)]
        dsimp only
        rw [hcell]
        dsimp only
        rw [if_pos hr, h2, List.reverse_reverse]
      have hq5 : q ≠ 0 ∧ q ≠ 3 ∧ q ≠ 4 ∧ q ≠ 5 ∧ q ≠ 6 ∧ q ≠ 7 ∧ q ≠ 8 := by
        rcases hq with ⟨rfl, -⟩ | ⟨rfl, -⟩ <;> decide
      obtain ⟨q0, q3, q4, q5, q6, q7, q8⟩ := hq5
      split
      · rename_i hz; cases hz; exact absurd rfl q0
      · rename_i hz; cases hz; exact absurd rfl q3
      · rename_i hz; cases hz; exact absurd rfl q4
      · rename_i hz; cases hz; exact absurd rfl q5
      · rename_i hz; cases hz; exact absurd rfl q6
      · rename_i hz; cases hz; exact absurd rfl q7
      · rename_i hz; cases hz; exact absurd rfl q8
      · rename_i hz; cases hz; exact big
      · rename_i hz; cases hz
    · cases hr
  rcases hq with ⟨rfl, rfl⟩ | ⟨rfl, rfl⟩
  · exact pE_call hi (key (fun q => q == 1) rfl) hc e
  · exact pE_call hi (key (fun q => q == 2 || q == 3) rfl) hc e
/-- a static call -/
theorem pE_is {k : Nat} {mj : pm_I} {Bs : List Value} {r : Option Value} (hi : pm_at mi pc = some (.invokestatic k)) (hl : pg_m G (pi_co mi) k = some (mj, 0)) (hn : Bs.length = pi_na mj) (h8 : (st.map fun v => v.category).sum ≤ 8) (hL : (lg_sl Bs).length ≤ pi_L mj) (hc : call mj Bs S (r, S'))
    (e : pmE G call mi (pc + 3) ls (r.toList ++ st) S' out) : pmE G call mi pc ls (Bs.reverse ++ st) S out := by
  have hb : Bs.reverse.length = pi_na mj := by rw [List.length_reverse]; exact hn
  have h1 : (Bs.reverse ++ st).drop (pi_na mj) = st := by rw [← hb, List.drop_left]
  have h2 : (Bs.reverse ++ st).take (pi_na mj) = Bs.reverse := by rw [← hb, List.take_left]
  refine pE_call hi ?_ hc e
  show pm_inv G mi k (fun q => q == 0 || 4 ≤ q) (pc + 3) ls (Bs.reverse ++ st) S = _
  refine pm_inv_eq hl ?_
  show (if true && decide (pi_na mj ≤ (Bs.reverse ++ st).length) && decide ((((Bs.reverse ++ st).drop (pi_na mj)).map fun v => v.category).sum ≤ 8) && decide ((lg_sl ((Bs.reverse ++ st).take (pi_na mj)).reverse).length ≤ pi_L mj) then some (.inr (.inr (.inl (mj, ((Bs.reverse ++ st).take (pi_na mj)).reverse, (Bs.reverse ++ st).drop (pi_na mj))))) else none : Option pm_X) = _
  have hlen : pi_na mj ≤ (Bs.reverse ++ st).length := by
    rw [List.length_append, hb]; omega
  rw [h1, h2, List.reverse_reverse, if_pos (by simp only [Bool.true_and, Bool.and_eq_true, decide_eq_true_eq]; exact ⟨⟨hlen, h8⟩, hL⟩)]
end PE
/-! fewer locals known -/
def lsub : pm_L → pm_L → Prop
  | [], [] => True
  | none :: a, _ :: b => lsub a b
  | some v :: a, some w :: b => v = w ∧ lsub a b
  | _, _ => False
theorem lsub_len : ∀ {a b : pm_L}, lsub a b → a.length = b.length := by
  intro a
  induction a with
  | nil => intro b h; cases b with
    | nil => rfl
    | cons x b => exact h.elim
  | cons x a ih =>
    intro b h
    cases b with
    | nil => cases x <;> exact h.elim
    | cons y b =>
      cases x with
      | none => exact congrArg (· + 1) (ih (b := b) h)
      | some v =>
        cases y with
        | none => exact h.elim
        | some w => exact congrArg (· + 1) (ih (b := b) h.2)
theorem lsub_get : ∀ {a b : pm_L} {i : Nat} {v : Value}, lsub a b → lget a i = some v → lget b i = some v := by
  intro a
  induction a with
  | nil => intro b i v h hg; simp [lget] at hg
  | cons x a ih =>
    intro b i v h hg
    cases b with
    | nil => cases x <;> exact h.elim
    | cons y b =>
      cases x with
      | none =>
        cases i with
        | zero => simp [lget] at hg
        | succ i => exact ih (b := b) (i := i) h hg
      | some u =>
        cases y with
        | none => exact h.elim
        | some w =>
          cases i with
          | zero =>
            obtain ⟨h1, -⟩ := h
            subst h1
            exact hg
          | succ i => exact ih (b := b) (i := i) h.2 hg
theorem lsub_of : ∀ {a b : pm_L}, a.length = b.length → (∀ i v, lget a i = some v → lget b i = some v) → lsub a b := by
  intro a
  induction a with
  | nil => intro b h _; cases b with
    | nil => exact trivial
    | cons x b => cases h
  | cons x a ih =>
    intro b h hg
    cases b with
    | nil => cases h
    | cons y b =>
      have hl : a.length = b.length := by simpa using h
      have ht : lsub a b := ih hl (fun i v hv => hg (i + 1) v hv)
      cases x with
      | none => exact ht
      | some u =>
        have h0 := hg 0 u rfl
        cases y with
        | none => cases h0
        | some w =>
          have : w = u := by simpa [lget] using h0
          exact ⟨this.symm, ht⟩
theorem lcut_len {l : pm_L} {i : Nat} : (lcut l i).length = l.length := by
  unfold lcut
  split
  · rfl
  · split
    · split
      · rw [List.length_set]
      · rfl
    · rfl
theorem lget_cut' {l : pm_L} {i j : Nat} {v : Value} (h : lget l j = some v) (hn : ¬ (j + 1 = i ∧ v.category = 2)) : lget (lcut l i) j = some v := by
  unfold lcut
  split
  · exact h
  · rename_i k
    split
    · rename_i w hw
      split
      · rename_i hc
        rw [lget_set, if_neg ?_]
        · exact h
        · rintro ⟨rfl, -⟩
          have : lget l k = some w := hw
          rw [this] at h
          cases h
          exact hn ⟨rfl, hc⟩
      · exact h
    · exact h
theorem lsub_st1 {a b : pm_L} {i : Nat} {v : Value} (h : lsub a b) : lsub (lst1 a i v) (lst1 b i v) := by
  refine lsub_of (by unfold lst1; rw [List.length_set, List.length_set, lcut_len, lcut_len]; exact lsub_len h) (fun j w hj => ?_)
  unfold lst1 at hj ⊢
  rw [lget_set] at hj ⊢
  rw [lcut_len] at hj ⊢
  rw [lsub_len h] at hj
  split at hj
  · rename_i c
    rw [if_pos c]
    exact hj
  · rename_i c
    rw [if_neg c]
    obtain ⟨g1, g2⟩ := lget_cut hj
    exact lget_cut' (lsub_get h g1) g2
theorem lsub_st2 {a b : pm_L} {i : Nat} {v : Value} (h : lsub a b) : lsub (lst2 a i v) (lst2 b i v) := by
  refine lsub_of (by unfold lst2; rw [List.length_set, List.length_set, List.length_set, List.length_set, lcut_len, lcut_len]; exact lsub_len h) (fun j w hj => ?_)
  unfold lst2 at hj ⊢
  rw [lget_set] at hj ⊢
  rw [List.length_set, lcut_len] at hj ⊢
  rw [lsub_len h] at hj
  split at hj
  · cases hj
  · rename_i c
    rw [if_neg c]
    rw [lget_set] at hj ⊢
    rw [lcut_len] at hj ⊢
    rw [lsub_len h] at hj
    split at hj
    · rename_i c
      rw [if_pos c]
      exact hj
    · rename_i c
      rw [if_neg c]
      obtain ⟨g1, g2⟩ := lget_cut hj
      exact lget_cut' (lsub_get h g1) g2
/-- the outcome with other locals -/
def lrep (ls : pm_L) (X : pm_X) : pm_X := match X with
  | .inl (pc, _, st, S) => .inl (pc, ls, st, S)
  | x => x
def pm_loc (i : Instr) : Bool := match i with
  | .iload _ => true
  | .iload_n _ => true
  | .lload _ => true
  | .lload_n _ => true
  | .aload _ => true
  | .aload_n _ => true
  | .istore _ => true
  | .istore_n _ => true
  | .lstore _ => true
  | .lstore_n _ => true
  | .astore _ => true
  | .astore_n _ => true
  | .iinc _ _ => true
  | _ => false
set_option maxHeartbeats 8000000 in
theorem pm_stp_rep {G : pm_G} {mi : pm_I} {pc : Nat} {i : Instr} {ls ls' : pm_L} {st : List Value} {S : pm_S} {X : pm_X} (hi : pm_loc i = false) (h : pm_stp G mi pc i ls' st S = some X) : pm_stp G mi pc i ls st S = some (lrep ls X) ∧ (∀ q l t U, X = .inl (q, l, t, U) → l = ls') := by
  cases i <;> (try (cases hi; done)) <;> (try (cases h; done)) <;> simp only [pm_stp, pm_b2, pm_l2, pm_c1, pm_c2, pm_gf, pm_pf, pm_ai, pm_aj, pm_aq, pm_si, pm_sj, pm_sq, pm_lenS, pm_len, pm_newa, pm_inv, pm_cpy, pm_mx, pm_mb, pm_br, pm_rt, pm_nx] at h ⊢ <;> (repeat' (split at h)) <;> first
    | (cases h; done)
    | (cases h; refine ⟨by (simp_all [lrep]; try (intro z; first | exact absurd z (Int32.not_lt.mpr (by assumption)) | exact absurd z (Int32.not_le.mpr (by assumption)))), fun q l t U hX => ?_⟩; cases hX; rfl)
    | (cases h; refine ⟨by (simp_all [lrep]; try (intro z; first | exact absurd z (Int32.not_lt.mpr (by assumption)) | exact absurd z (Int32.not_le.mpr (by assumption)))), fun q l t U hX => ?_⟩; cases hX)
theorem pm_stp_loc {G : pm_G} {mi : pm_I} {pc : Nat} {i : Instr} {ls ls' : pm_L} {st : List Value} {S : pm_S} {X : pm_X} (hs : lsub ls' ls) (hi : pm_loc i = true) (h : pm_stp G mi pc i ls' st S = some X) : ∃ pc' l' l st', X = .inl (pc', l', st', S) ∧ pm_stp G mi pc i ls st S = some (.inl (pc', l, st', S)) ∧ lsub l' l := by
  have ld : ∀ q k, pm_ld q ls' st S k = some X → ∃ pc' l' l st', X = .inl (pc', l', st', S) ∧ pm_ld q ls st S k = some (.inl (pc', l, st', S)) ∧ lsub l' l := by
    intro q k h
    obtain ⟨x, hg, rfl⟩ := pm_ld_inv h
    exact ⟨_, _, ls, _, rfl, by unfold pm_ld; rw [lsub_get hs hg]; rfl, hs⟩
  have ldl : ∀ q k, pm_ldl q ls' st S k = some X → ∃ pc' l' l st', X = .inl (pc', l', st', S) ∧ pm_ldl q ls st S k = some (.inl (pc', l, st', S)) ∧ lsub l' l := by
    intro q k h
    obtain ⟨x, hg, rfl⟩ := pm_ldl_inv h
    exact ⟨_, _, ls, _, rfl, by unfold pm_ldl; rw [lsub_get hs hg]; rfl, hs⟩
  have lda : ∀ q k, pm_lda q ls' st S k = some X → ∃ pc' l' l st', X = .inl (pc', l', st', S) ∧ pm_lda q ls st S k = some (.inl (pc', l, st', S)) ∧ lsub l' l := by
    intro q k h
    rcases pm_lda_inv h with ⟨x, hg, rfl⟩ | ⟨hg, rfl⟩
    · exact ⟨_, _, ls, _, rfl, by unfold pm_lda; rw [lsub_get hs hg]; rfl, hs⟩
    · exact ⟨_, _, ls, _, rfl, by unfold pm_lda; rw [lsub_get hs hg]; rfl, hs⟩
  have sti : ∀ q k, pm_sti mi q ls' st S k = some X → ∃ pc' l' l st', X = .inl (pc', l', st', S) ∧ pm_sti mi q ls st S k = some (.inl (pc', l, st', S)) ∧ lsub l' l := by
    intro q k h
    obtain ⟨x, r, rfl, hk, rfl⟩ := pm_sti_inv h
    exact ⟨_, _, _, _, rfl, by unfold pm_sti; dsimp only; rw [if_pos hk]; rfl, lsub_st1 hs⟩
  have stl : ∀ q k, pm_stl mi q ls' st S k = some X → ∃ pc' l' l st', X = .inl (pc', l', st', S) ∧ pm_stl mi q ls st S k = some (.inl (pc', l, st', S)) ∧ lsub l' l := by
    intro q k h
    obtain ⟨x, r, rfl, hk, rfl⟩ := pm_stl_inv h
    exact ⟨_, _, _, _, rfl, by unfold pm_stl; dsimp only; rw [if_pos hk]; rfl, lsub_st2 hs⟩
  have sta : ∀ q k, pm_sta mi q ls' st S k = some X → ∃ pc' l' l st', X = .inl (pc', l', st', S) ∧ pm_sta mi q ls st S k = some (.inl (pc', l, st', S)) ∧ lsub l' l := by
    intro q k h
    rcases pm_sta_inv h with ⟨x, r, rfl, hk, rfl⟩ | ⟨r, rfl, hk, rfl⟩
    · exact ⟨_, _, _, _, rfl, by unfold pm_sta; dsimp only; rw [if_pos hk]; rfl, lsub_st1 hs⟩
    · exact ⟨_, _, _, _, rfl, by unfold pm_sta; dsimp only; rw [if_pos hk]; rfl, lsub_st1 hs⟩
  cases i <;> (try (cases hi; done))
  case iload k => exact ld _ _ h
  case iload_n k => exact ld _ _ h
  case lload k => exact ldl _ _ h
  case lload_n k => exact ldl _ _ h
  case aload k => exact lda _ _ h
  case aload_n k => exact lda _ _ h
  case istore k => exact sti _ _ h
  case istore_n k => exact sti _ _ h
  case lstore k => exact stl _ _ h
  case lstore_n k => exact stl _ _ h
  case astore k => exact sta _ _ h
  case astore_n k => exact sta _ _ h
  case iinc k n =>
    simp only [pm_stp] at h ⊢
    split at h
    · rename_i x hg
      split at h
      · rename_i hk
        rw [lsub_get hs hg]
        have := pm_nx_inv h
        subst this
        exact ⟨_, _, _, _, rfl, by dsimp only; rw [if_pos hk]; rfl, lsub_st1 hs⟩
      · cases h
    · cases h
theorem pm_ev_weak {G : pm_G} {call : pm_I → List Value → pm_S → pm_O → Prop} {mi : pm_I} {out : pm_O} : ∀ (n pc : Nat) (ls ls' : pm_L) (st : List Value) (S : pm_S), lsub ls' ls → pm_ev G call mi n pc ls' st S out → pm_ev G call mi n pc ls st S out := by
  intro n
  induction n with
  | zero => intro pc ls ls' st S _ h; exact h
  | succ n ih =>
    intro pc ls ls' st S hs h
    simp only [pm_ev] at h ⊢
    cases hat : pm_at mi pc with
    | none => rw [hat] at h; exact h.elim
    | some i =>
      rw [hat] at h
      dsimp only at h ⊢
      cases hst : pm_stp G mi pc i ls' st S with
      | none => rw [hst] at h; exact h.elim
      | some X =>
        rw [hst] at h
        by_cases hl : pm_loc i = true
        · obtain ⟨pc', l', l, st', rfl, h2, h3⟩ := pm_stp_loc hs hl hst
          rw [h2]
          exact ih _ _ _ _ _ h3 h
        · obtain ⟨h1, h2⟩ := pm_stp_rep (ls := ls) (by simpa using hl) hst
          rw [h1]
          rcases X with ⟨pc', ls1, st', S'⟩ | ⟨b, p1, p2, st'⟩ | ⟨mj, As, st'⟩ | v
          · have := h2 _ _ _ _ rfl
            subst this
            exact ih _ _ _ _ _ hs h
          · simp only [lrep] at h ⊢
            split at h
            · rename_i c
              rw [if_pos c]
              exact ih _ _ _ _ _ hs h
            · rename_i c
              rw [if_neg c]
              exact ih _ _ _ _ _ hs h
          · simp only [lrep] at h ⊢
            obtain ⟨r, S', g1, g2⟩ := h
            exact ⟨r, S', g1, ih _ _ _ _ _ hs g2⟩
          · simp only [lrep] at h ⊢
            exact h
theorem pE_weak {G : pm_G} {call : pm_I → List Value → pm_S → pm_O → Prop} {mi : pm_I} {out : pm_O} {pc : Nat} {ls : pm_L} {st : List Value} {S : pm_S} (ls' : pm_L) (hs : lsub ls' ls) (e : pmE G call mi pc ls' st S out) : pmE G call mi pc ls st S out := by
  obtain ⟨n, hn⟩ := e
  exact ⟨n, pm_ev_weak _ _ _ _ _ _ hs hn⟩
theorem pE_rel {G : pm_G} {sp : pm_I → List Value → pm_S → pm_O → Prop} {mi : pm_I} {d : Nat} {As : List Value} {S : pm_S} {out : pm_O} (e : pmE G (pm_rel G sp d) mi 0 (lent (pi_L mi) As) [] S out) : pm_rel G sp (d + 1) mi As S out := Or.inr e
section PE2
variable {G : pm_G} {call : pm_I → List Value → pm_S → pm_O → Prop} {mi : pm_I} {pc pc' : Nat} {ls ls' : pm_L} {st st' : List Value} {S S' : pm_S} {out : pm_O}
theorem pE_gfS {idx ci k a b : Nat} {ty : FieldType} {fin : Bool} (hi : pm_at mi pc = some (.getfield idx)) (hf : pg_f G (pi_co mi) idx = some (ci, k, ty, fin)) (h : oR S a ci k = some (some b)) (e : pmE G call mi (pc + 3) ls (.ref b :: st) S out) : pmE G call mi pc ls (.ref a :: st) S out := pE_gfR hi hf h e
theorem pE_gfN {idx ci k a : Nat} {ty : FieldType} {fin : Bool} (hi : pm_at mi pc = some (.getfield idx)) (hf : pg_f G (pi_co mi) idx = some (ci, k, ty, fin)) (h : oR S a ci k = some none) (e : pmE G call mi (pc + 3) ls (.null :: st) S out) : pmE G call mi pc ls (.ref a :: st) S out := pE_gfR hi hf h e
theorem pE_aQS {a b : Nat} {j : Int32} (hi : pm_at mi pc = some .aaload) (h : aQ S a j = some (some b)) (e : pmE G call mi (pc + 1) ls (.ref b :: st) S out) : pmE G call mi pc ls (.int j :: .ref a :: st) S out := pE_aQ hi h e
theorem pE_aQN {a : Nat} {j : Int32} (hi : pm_at mi pc = some .aaload) (h : aQ S a j = some none) (e : pmE G call mi (pc + 1) ls (.null :: st) S out) : pmE G call mi pc ls (.int j :: .ref a :: st) S out := pE_aQ hi h e
end PE2
theorem pm_ne {x k : Int32} (h : ¬ x = k) : x.toInt ≠ k.toInt := fun e => h (Int32.toInt_inj.mp e)
theorem pm_swd2 {x : Int32} (h0 : ¬ x = 0) (h1 : ¬ x = 1) (h2 : ¬ x = 2) : x.toInt < 0 ∨ 2 < x.toInt := by
  have a0 : x.toInt ≠ 0 := pm_ne h0
  have a1 : x.toInt ≠ 1 := pm_ne h1
  have a2 : x.toInt ≠ 2 := pm_ne h2
  omega
theorem pm_swd3 {x : Int32} (h0 : ¬ x = 0) (h1 : ¬ x = 1) (h2 : ¬ x = 2) (h3 : ¬ x = 3) : x.toInt < 0 ∨ 3 < x.toInt := by
  have a3 : x.toInt ≠ 3 := pm_ne h3
  rcases pm_swd2 h0 h1 h2 with z | z <;> omega
theorem pm_swd6 {x : Int32} (h0 : ¬ x = 0) (h1 : ¬ x = 1) (h2 : ¬ x = 2) (h3 : ¬ x = 3) (h4 : ¬ x = 4) (h5 : ¬ x = 5) (h6 : ¬ x = 6) : x.toInt < 0 ∨ 6 < x.toInt := by
  have a4 : x.toInt ≠ 4 := pm_ne h4
  have a5 : x.toInt ≠ 5 := pm_ne h5
  have a6 : x.toInt ≠ 6 := pm_ne h6
  rcases pm_swd3 h0 h1 h2 h3 with z | z <;> omega
/-- a switch's default -/
theorem pE_swD {G : pm_G} {call : pm_I → List Value → pm_S → pm_O → Prop} {mi : pm_I} {pc pc' : Nat} {ls : pm_L} {st : List Value} {S : pm_S} {out : pm_O} {dflt lo hi : Int} {offs : Array Int} {x : Int32} (hi0 : pm_at mi pc = some (.tableswitch dflt lo hi offs)) (hx : x.toInt < lo ∨ hi < x.toInt) (ht : 0 ≤ (pc : Int) + dflt) (hpc : pm_tg pc dflt = pc') (e : pmE G call mi pc' ls st S out) : pmE G call mi pc ls (.int x :: st) S out := by
  subst hpc
  have hw : pm_sw dflt lo hi offs x = dflt := by unfold pm_sw; rw [if_pos hx]
  refine pE_nx hi0 ?_ e
  show (if 0 ≤ (pc : Int) + pm_sw dflt lo hi offs x ∧ (x.toInt < lo ∨ hi < x.toInt ∨ (x.toInt - lo).toNat < offs.size) then pm_nx (pm_tg pc (pm_sw dflt lo hi offs x)) ls st S else none) = _
  rw [hw, if_pos ⟨ht, hx.elim (fun z => Or.inl z) (fun z => Or.inr (Or.inl z))⟩]
  rfl
