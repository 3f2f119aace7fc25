/-! ===== the pure machine's steps ===== -/
def pu (h : Nat → pm_C) (a : Nat) (c : pm_C) : Nat → pm_C := fun q => if q = a then c else h q
def lget (ls : pm_L) (i : Nat) : Option Value := ls.getD i none
/-- a long ahead of place i is no more -/
def lcut (ls : pm_L) (i : Nat) : pm_L := match i with
  | 0 => ls
  | j + 1 => match ls.getD j none with
    | some w => if w.category = 2 then ls.set j none else ls
    | none => ls
def lst1 (ls : pm_L) (i : Nat) (v : Value) : pm_L := (lcut ls i).set i (some v)
def lst2 (ls : pm_L) (i : Nat) (v : Value) : pm_L := ((lcut ls i).set i (some v)).set (i + 1) none
def lslot (v : Value) : pm_L := if v.category = 2 then [some v, none] else [some v]
/-- the locals at a method's start -/
def lent (n : Nat) (As : List Value) : pm_L := As.flatMap lslot ++ List.replicate (n - (As.flatMap lslot).length) none
def pm_tg (pc : Nat) (off : Int) : Nat := ((pc : Int) + off).toNat
def pm_cnd (c : Jvm.ClassFile.Cond) (x y : Int32) : Bool := match c with
  | .eq => decide (x = y)
  | .ne => decide (¬ x = y)
  | .lt => decide (x < y)
  | .ge => decide (y ≤ x)
  | .gt => decide (y < x)
  | .le => decide (x ≤ y)
def pm_in (i : Int32) (n : Nat) : Bool := decide (¬ (i < 0 ∨ n ≤ i.toNatClampNeg))
/-- the cell at a is one of ours, and alive -/
def pm_my (S : pm_S) (a : Nat) : Bool := decide (ps_lo S ≤ a) && decide (a < ps_hi S)
def pm_wr (S : pm_S) (a : Nat) (c : pm_C) : pm_S := (pu (ps_h S) a c, ps_lo S, ps_hi S, ps_z S)
def pm_al (S : pm_S) (n : Nat) (c : pm_C) : pm_S := (pu (ps_h S) (ps_hi S) c, ps_lo S, ps_hi S + 1, ps_z S + n)
/-- a value that a field of this type takes -/
def pm_fit (ty : FieldType) (v : Value) : Bool := match ty, v with
  | .int, .int _ => true
  | .boolean, .int x => decide (x = 0) || decide (x = 1)
  | .object _, .ref _ => true
  | .object _, .null => true
  | .array _, .ref _ => true
  | .array _, .null => true
  | _, _ => false
def pm_nx (pc : Nat) (ls : pm_L) (st : List Value) (S : pm_S) : Option pm_X := some (.inl (pc, ls, st, S))
def pm_br (b : Bool) (p1 p2 : Nat) (st : List Value) : Option pm_X := some (.inr (.inl (b, p1, p2, st)))
def pm_rt (v : Option Value) : Option pm_X := some (.inr (.inr (.inr v)))
def pm_ld (pc : Nat) (ls : pm_L) (st : List Value) (S : pm_S) (i : Nat) : Option pm_X := match lget ls i with
  | some (.int x) => pm_nx pc ls (.int x :: st) S
  | _ => none
def pm_ldl (pc : Nat) (ls : pm_L) (st : List Value) (S : pm_S) (i : Nat) : Option pm_X := match lget ls i with
  | some (.long x) => pm_nx pc ls (.long x :: st) S
  | _ => none
def pm_lda (pc : Nat) (ls : pm_L) (st : List Value) (S : pm_S) (i : Nat) : Option pm_X := match lget ls i with
  | some (.ref x) => pm_nx pc ls (.ref x :: st) S
  | some .null => pm_nx pc ls (.null :: st) S
  | _ => none
def pm_sti (mi : pm_I) (pc : Nat) (ls : pm_L) (st : List Value) (S : pm_S) (i : Nat) : Option pm_X := match st with
  | .int x :: r => if i < pi_L mi then pm_nx pc (lst1 ls i (.int x)) r S else none
  | _ => none
def pm_stl (mi : pm_I) (pc : Nat) (ls : pm_L) (st : List Value) (S : pm_S) (i : Nat) : Option pm_X := match st with
  | .long x :: r => if i + 1 < pi_L mi then pm_nx pc (lst2 ls i (.long x)) r S else none
  | _ => none
def pm_sta (mi : pm_I) (pc : Nat) (ls : pm_L) (st : List Value) (S : pm_S) (i : Nat) : Option pm_X := match st with
  | .ref x :: r => if i < pi_L mi then pm_nx pc (lst1 ls i (.ref x)) r S else none
  | .null :: r => if i < pi_L mi then pm_nx pc (lst1 ls i .null) r S else none
  | _ => none
def pm_b2 (f : Int32 → Int32 → Int32) (pc : Nat) (ls : pm_L) (st : List Value) (S : pm_S) : Option pm_X := match st with
  | .int y :: .int x :: r => pm_nx pc ls (.int (f x y) :: r) S
  | _ => none
def pm_l2 (f : Int64 → Int64 → Int64) (pc : Nat) (ls : pm_L) (st : List Value) (S : pm_S) : Option pm_X := match st with
  | .long y :: .long x :: r => pm_nx pc ls (.long (f x y) :: r) S
  | _ => none
def pm_c1 (c : Jvm.ClassFile.Cond) (off : Int) (pc : Nat) (st : List Value) : Option pm_X := match st with
  | .int x :: r => if 0 ≤ (pc : Int) + off then pm_br (pm_cnd c x 0) (pm_tg pc off) (pc + 3) r else none
  | _ => none
def pm_c2 (c : Jvm.ClassFile.Cond) (off : Int) (pc : Nat) (st : List Value) : Option pm_X := match st with
  | .int y :: .int x :: r => if 0 ≤ (pc : Int) + off then pm_br (pm_cnd c x y) (pm_tg pc off) (pc + 3) r else none
  | _ => none
/-- getfield of place k of class ci -/
def pm_gf (ci k : Nat) (pc : Nat) (ls : pm_L) (st : List Value) (S : pm_S) : Option pm_X := match st with
  | .ref a :: r => match ps_h S a with
    | .inr (cj, fs) => if pm_my S a && decide (cj = ci) then (match fs[k]? with
      | some v => pm_nx pc ls (v :: r) S
      | none => none) else none
    | _ => none
  | _ => none
def pm_pf (ci k : Nat) (ty : FieldType) (pc : Nat) (ls : pm_L) (st : List Value) (S : pm_S) : Option pm_X := match st with
  | v :: .ref a :: r => match ps_h S a with
    | .inr (cj, fs) => if pm_my S a && decide (cj = ci) && pm_fit ty v && decide (k < fs.length) then pm_nx pc ls r (pm_wr S a (.inr (ci, fs.set k v))) else none
    | _ => none
  | _ => none
/-- loads from arrays of ints: kind t (the script: 6) -/
def pm_ai (ts : List Nat) (pc : Nat) (ls : pm_L) (st : List Value) (S : pm_S) : Option pm_X := match st with
  | .int i :: .ref a :: r => match ps_h S a with
    | .inl (t, n, .inl f) => if ts.contains t && (pm_my S a || decide (t = 6)) && pm_in i n then pm_nx pc ls (.int (f i.toNatClampNeg) :: r) S else none
    | _ => none
  | _ => none
def pm_aj (pc : Nat) (ls : pm_L) (st : List Value) (S : pm_S) : Option pm_X := match st with
  | .int i :: .ref a :: r => match ps_h S a with
    | .inl (t, n, .inr (.inl f)) => if decide (t = 1) && pm_my S a && pm_in i n then pm_nx pc ls (.long (f i.toNatClampNeg) :: r) S else none
    | _ => none
  | _ => none
def pm_aq (pc : Nat) (ls : pm_L) (st : List Value) (S : pm_S) : Option pm_X := match st with
  | .int i :: .ref a :: r => match ps_h S a with
    | .inl (t, n, .inr (.inr (.inr (.inr f)))) => if (decide (t = 4) || decide (t = 5)) && pm_my S a && pm_in i n then pm_nx pc ls (va_rf (f i.toNatClampNeg) :: r) S else none
    | _ => none
  | _ => none
def pm_nar (t : Nat) (x : Int32) : Int32 := if t = 2 then vp_nar .byte x else if t = 3 then vp_nar .boolean x else x
def pm_si (ts : List Nat) (pc : Nat) (ls : pm_L) (st : List Value) (S : pm_S) : Option pm_X := match st with
  | .int x :: .int i :: .ref a :: r => match ps_h S a with
    | .inl (t, n, .inl f) => if ts.contains t && pm_my S a && pm_in i n then pm_nx pc ls r (pm_wr S a (.inl (t, n, .inl (upd f i.toNatClampNeg (pm_nar t x))))) else none
    | _ => none
  | _ => none
def pm_sj (pc : Nat) (ls : pm_L) (st : List Value) (S : pm_S) : Option pm_X := match st with
  | .long x :: .int i :: .ref a :: r => match ps_h S a with
    | .inl (t, n, .inr (.inl f)) => if decide (t = 1) && pm_my S a && pm_in i n then pm_nx pc ls r (pm_wr S a (.inl (t, n, .inr (.inl (vp_updL f i.toNatClampNeg x))))) else none
    | _ => none
  | _ => none
def pm_okv (pl t : Nat) (c : pm_C) : Bool := match c with
  | .inr (cj, _) => decide (t = 4) && decide (cj = pl)
  | .inl (t2, _, .inl _) => decide (t = 5) && decide (t2 = 0)
  | _ => false
/-- a plan into an array of plans, an int array into an array of them -/
def pm_sq (pl : Nat) (pc : Nat) (ls : pm_L) (st : List Value) (S : pm_S) : Option pm_X := match st with
  | .ref v :: .int i :: .ref a :: r => match ps_h S a with
    | .inl (t, n, .inr (.inr (.inr (.inr f)))) => if pm_my S a && pm_my S v && pm_in i n && pm_okv pl t (ps_h S v) then pm_nx pc ls r (pm_wr S a (.inl (t, n, .inr (.inr (.inr (.inr (va_up f i.toNatClampNeg (some v)))))))) else none
    | _ => none
  | _ => none
def pm_len (pc : Nat) (ls : pm_L) (st : List Value) (S : pm_S) : Option pm_X := match st with
  | .ref a :: r => match ps_h S a with
    | .inl (t, n, _) => if (pm_my S a && decide (t < 6)) then pm_nx pc ls (.int (Int32.ofNat n) :: r) S else none
    | _ => none
  | _ => none
/-- the script's length -/
def pm_lenS (pc : Nat) (ls : pm_L) (st : List Value) (S : pm_S) : Option pm_X := match st with
  | .ref a :: r => match ps_h S a with
    | .inl (t, n, .inl _) => if decide (t = 6) then pm_nx pc ls (.int (Int32.ofNat n) :: r) S else pm_len pc ls st S
    | _ => pm_len pc ls st S
  | _ => none
def pm_zero (t n : Nat) : pm_C := .inl (t, n, if t = 1 then .inr (.inl (fun _ => 0)) else if t = 4 ∨ t = 5 then .inr (.inr (.inr (.inr (fun _ => none)))) else .inl (fun _ => 0))
def pm_kind (t : ArrayType) : Option Nat := match t with
  | .int => some 0
  | .long => some 1
  | .byte => some 2
  | .boolean => some 3
  | _ => none
def pm_newa (t : Nat) (pc : Nat) (ls : pm_L) (st : List Value) (S : pm_S) : Option pm_X := match st with
  | .int n :: r => if decide (¬ n < 0) && decide (n.toNatClampNeg ≤ 65536) then pm_nx pc ls (.ref (ps_hi S) :: r) (pm_al S n.toNatClampNeg (pm_zero t n.toNatClampNeg)) else none
  | _ => none
/-- arraycopy of ints -/
def pm_cpy (pc : Nat) (ls : pm_L) (st : List Value) (S : pm_S) : Option pm_X := match st with
  | .int n :: .int dp :: .ref a :: .int sp :: .ref a0 :: r => match ps_h S a0, ps_h S a with
    | .inl (t0, n0, .inl f), .inl (t1, n1, .inl g) => if decide (t0 = 0) && decide (t1 = 0) && pm_my S a0 && pm_my S a && decide (¬ sp < 0) && decide (¬ dp < 0) && decide (¬ n < 0) && decide (sp.toNatClampNeg + n.toNatClampNeg ≤ n0) && decide (dp.toNatClampNeg + n.toNatClampNeg ≤ n1) && decide ((r.map fun v => v.category).sum ≤ 4)
      then pm_nx pc ls r (pm_wr S a (.inl (0, n1, .inl (va_cpy f g sp.toNatClampNeg dp.toNatClampNeg n.toNatClampNeg)))) else none
    | _, _ => none
  | _ => none
/-- Math.max, min (of two), abs -/
def pm_mx (f : Int32 → Int32 → Int32) (pc : Nat) (ls : pm_L) (st : List Value) (S : pm_S) : Option pm_X := match st with
  | .int y :: .int x :: r => if (r.map fun v => v.category).sum ≤ 8 then pm_nx pc ls (.int (f x y) :: r) S else none
  | _ => none
def pm_mb (pc : Nat) (ls : pm_L) (st : List Value) (S : pm_S) : Option pm_X := match st with
  | .int x :: r => if (r.map fun v => v.category).sum ≤ 8 then pm_nx pc ls (.int (if 0 ≤ x then x else 0 - x) :: r) S else none
  | _ => none
/-- a call: the arguments off the stack -/
def pm_inv (G : pm_G) (mi : pm_I) (idx : Nat) (md : Nat → Bool) (pc : Nat) (ls : pm_L) (st : List Value) (S : pm_S) : Option pm_X := match pg_m G (pi_co mi) idx with
  | some (mj, 0) => if md 0 && decide (pi_na mj ≤ st.length) && decide (((st.drop (pi_na mj)).map fun v => v.category).sum ≤ 8) && decide ((lg_sl (st.take (pi_na mj)).reverse).length ≤ pi_L mj) then some (.inr (.inr (.inl (mj, (st.take (pi_na mj)).reverse, st.drop (pi_na mj))))) else none
  | some (mj, 3) => if md 3 then (match st with
    | .ref a :: r => if decide ((r.map fun v => v.category).sum ≤ 8) && pm_my S a then pm_nx pc ls r S else none
    | _ => none) else none
  | some (_, 4) => if md 4 then pm_cpy pc ls st S else none
  | some (_, 5) => if md 5 then pm_mx (fun x y => if x < y then y else x) pc ls st S else none
  | some (_, 6) => if md 6 then pm_mx (fun x y => if y < x then y else x) pc ls st S else none
  | some (_, 7) => if md 7 then pm_mb pc ls st S else none
  | some (mj, 8) => if md 8 && decide (pi_na mj ≤ st.length) && decide (((st.drop (pi_na mj)).map fun v => v.category).sum ≤ 8) && decide ((lg_sl (st.take (pi_na mj)).reverse).length ≤ pi_L mj) then some (.inr (.inr (.inl (mj, (st.take (pi_na mj)).reverse, st.drop (pi_na mj))))) else none
  | some (mj, q) => if md q && decide (pi_na mj + 1 ≤ st.length) && decide (((st.drop (pi_na mj + 1)).map fun v => v.category).sum ≤ 8) && decide ((lg_sl (st.take (pi_na mj + 1)).reverse).length ≤ pi_L mj) then (match st.drop (pi_na mj) with
    | .ref a :: r => match ps_h S a with
      | .inr (cj, _) => if pm_my S a && (decide (cj = pi_co mj)) then some (.inr (.inr (.inl (mj, .ref a :: (st.take (pi_na mj)).reverse, r)))) else none
      | _ => none
    | _ => none) else none
  | none => none
def pm_sw (dflt lo hi : Int) (offs : Array Int) (x : Int32) : Int := if x.toInt < lo ∨ hi < x.toInt then dflt else offs.getD (x.toInt - lo).toNat dflt
def pm_stp (G : pm_G) (mi : pm_I) (pc : Nat) (i : Instr) (ls : pm_L) (st : List Value) (S : pm_S) : Option pm_X := match i with
  | .aconst_null => pm_nx (pc + 1) ls (.null :: st) S
  | .iconst n => pm_nx (pc + 1) ls (.int (Int32.ofInt n) :: st) S
  | .bipush n => pm_nx (pc + 2) ls (.int (Int8.ofInt n).toInt32 :: st) S
  | .sipush n => pm_nx (pc + 3) ls (.int (Int16.ofInt n).toInt32 :: st) S
  | .lconst n => pm_nx (pc + 1) ls (.long (Int64.ofNat (n : Nat)) :: st) S
  | .ldc_w k => match pg_k G (pi_co mi) k with
    | some (.inl x) => pm_nx (pc + 3) ls (.int x :: st) S
    | _ => none
  | .ldc2_w k => match pg_k G (pi_co mi) k with
    | some (.inr x) => pm_nx (pc + 3) ls (.long x :: st) S
    | _ => none
  | .iload k => pm_ld (pc + 2) ls st S k
  | .iload_n k => pm_ld (pc + 1) ls st S (k : Nat)
  | .lload k => pm_ldl (pc + 2) ls st S k
  | .lload_n k => pm_ldl (pc + 1) ls st S (k : Nat)
  | .aload k => pm_lda (pc + 2) ls st S k
  | .aload_n k => pm_lda (pc + 1) ls st S (k : Nat)
  | .istore k => pm_sti mi (pc + 2) ls st S k
  | .istore_n k => pm_sti mi (pc + 1) ls st S (k : Nat)
  | .lstore k => pm_stl mi (pc + 2) ls st S k
  | .lstore_n k => pm_stl mi (pc + 1) ls st S (k : Nat)
  | .astore k => pm_sta mi (pc + 2) ls st S k
  | .astore_n k => pm_sta mi (pc + 1) ls st S (k : Nat)
  | .iinc k n => match lget ls k with
    | some (.int x) => if k < pi_L mi then pm_nx (pc + 3) (lst1 ls k (.int (x + Int32.ofInt n))) st S else none
    | _ => none
  | .iadd => pm_b2 (fun x y => x + y) (pc + 1) ls st S
  | .isub => pm_b2 (fun x y => x - y) (pc + 1) ls st S
  | .imul => pm_b2 (fun x y => x * y) (pc + 1) ls st S
  | .iand => pm_b2 (fun x y => x &&& y) (pc + 1) ls st S
  | .ior => pm_b2 (fun x y => x ||| y) (pc + 1) ls st S
  | .ixor => pm_b2 (fun x y => x ^^^ y) (pc + 1) ls st S
  | .ishl => pm_b2 (fun x y => x <<< (y &&& 31)) (pc + 1) ls st S
  | .ishr => pm_b2 (fun x y => x >>> (y &&& 31)) (pc + 1) ls st S
  | .iushr => pm_b2 (fun x y => (x.toUInt32 >>> (y.toUInt32 &&& Int32.toUInt32 31)).toInt32) (pc + 1) ls st S
  | .idiv => match st with
    | .int y :: .int x :: r => if y = 0 then none else pm_nx (pc + 1) ls (.int (x / y) :: r) S
    | _ => none
  | .irem => match st with
    | .int y :: .int x :: r => if y = 0 then none else pm_nx (pc + 1) ls (.int (x - x / y * y) :: r) S
    | _ => none
  | .ineg => match st with
    | .int x :: r => pm_nx (pc + 1) ls (.int (-x) :: r) S
    | _ => none
  | .land => pm_l2 (fun x y => x &&& y) (pc + 1) ls st S
  | .lor => pm_l2 (fun x y => x ||| y) (pc + 1) ls st S
  | .ladd => pm_l2 (fun x y => x + y) (pc + 1) ls st S
  | .lsub => pm_l2 (fun x y => x - y) (pc + 1) ls st S
  | .lshl => match st with
    | .int y :: .long x :: r => pm_nx (pc + 1) ls (.long (x <<< (y.toInt64 &&& 63)) :: r) S
    | _ => none
  | .lushr => match st with
    | .int y :: .long x :: r => pm_nx (pc + 1) ls (.long (x.toUInt64 >>> (y.toInt64.toUInt64 &&& Int64.toUInt64 63)).toInt64 :: r) S
    | _ => none
  | .lcmp => match st with
    | .long y :: .long x :: r => pm_nx (pc + 1) ls (.int (lg_cmp x y) :: r) S
    | _ => none
  | .i2l => match st with
    | .int x :: r => pm_nx (pc + 1) ls (.long x.toInt64 :: r) S
    | _ => none
  | .l2i => match st with
    | .long x :: r => pm_nx (pc + 1) ls (.int x.toInt32 :: r) S
    | _ => none
  | .i2b => match st with
    | .int x :: r => pm_nx (pc + 1) ls (.int x.toInt8.toInt32 :: r) S
    | _ => none
  | .dup => match st with
    | v :: r => if v.category = 1 then pm_nx (pc + 1) ls (v :: v :: r) S else none
    | _ => none
  | .dup2 => match st with
    | v :: w :: r => if v.category = 1 ∧ w.category = 1 then pm_nx (pc + 1) ls (v :: w :: v :: w :: r) S else none
    | _ => none
  | .pop => match st with
    | v :: r => if v.category = 1 then pm_nx (pc + 1) ls r S else none
    | _ => none
  | .ifCond c off => pm_c1 c off pc st
  | .if_icmp c off => pm_c2 c off pc st
  | .ifnull off => match st with
    | .ref _ :: r => pm_nx (pc + 3) ls r S
    | .null :: r => if 0 ≤ (pc : Int) + off then pm_nx (pm_tg pc off) ls r S else none
    | _ => none
  | .ifnonnull off => match st with
    | .null :: r => pm_nx (pc + 3) ls r S
    | .ref _ :: r => if 0 ≤ (pc : Int) + off then pm_nx (pm_tg pc off) ls r S else none
    | _ => none
  | .goto off => if 0 ≤ (pc : Int) + off then pm_nx (pm_tg pc off) ls st S else none
  | .tableswitch dflt lo hi offs => match st with
    | .int x :: r => if 0 ≤ (pc : Int) + pm_sw dflt lo hi offs x ∧ (x.toInt < lo ∨ hi < x.toInt ∨ (x.toInt - lo).toNat < offs.size) then pm_nx (pm_tg pc (pm_sw dflt lo hi offs x)) ls r S else none
    | _ => none
  | .getfield k => match pg_f G (pi_co mi) k with
    | some (ci, j, _, _) => pm_gf ci j (pc + 3) ls st S
    | none => none
  | .putfield k => match pg_f G (pi_co mi) k with
    | some (ci, j, ty, fin) => if (!fin) || (pi_in mi && decide (ci = pi_co mi)) then pm_pf ci j ty (pc + 3) ls st S else none
    | none => none
  | .iaload => pm_ai [0, 6] (pc + 1) ls st S
  | .baload => pm_ai [2, 3] (pc + 1) ls st S
  | .laload => pm_aj (pc + 1) ls st S
  | .aaload => pm_aq (pc + 1) ls st S
  | .iastore => pm_si [0] (pc + 1) ls st S
  | .bastore => pm_si [2, 3] (pc + 1) ls st S
  | .lastore => pm_sj (pc + 1) ls st S
  | .aastore => pm_sq 4 (pc + 1) ls st S
  | .arraylength => pm_lenS (pc + 1) ls st S
  | .newarray t => match pm_kind t with
    | some k => pm_newa k (pc + 2) ls st S
    | none => none
  | .anewarray k => match pg_q G (pi_co mi) k with
    | some t => if t = 4 ∨ t = 5 then pm_newa t (pc + 3) ls st S else none
    | none => none
  | .new k => match pg_n G (pi_co mi) k with
    | some (ci, fs) => pm_nx (pc + 3) ls (.ref (ps_hi S) :: st) (pm_al S fs.length (.inr (ci, fs)))
    | none => none
  | .invokestatic k => pm_inv G mi k (fun q => q == 0 || 4 ≤ q) (pc + 3) ls st S
  | .invokevirtual k => pm_inv G mi k (fun q => q == 1) (pc + 3) ls st S
  | .invokespecial k => pm_inv G mi k (fun q => q == 2 || q == 3) (pc + 3) ls st S
  | .ireturn => match st, pi_r mi with
    | [.int v], some .int => pm_rt (some (.int v))
    | [.int v], some .boolean => if v = 0 ∨ v = 1 then pm_rt (some (.int v)) else none
    | _, _ => none
  | .lreturn => match st, pi_r mi with
    | [.long v], some .long => pm_rt (some (.long v))
    | _, _ => none
  | .areturn => match st, pi_r mi with
    | [.ref a], some (.object _) => pm_rt (some (.ref a))
    | [.null], some (.object _) => pm_rt (some .null)
    | _, _ => none
  | .return_ => match st, pi_r mi with
    | [], none => pm_rt none
    | _, _ => none
  | _ => none
/-- the instruction at pc -/
def pm_at (mi : pm_I) (pc : Nat) : Option Instr := ((pi_c mi).find? (fun q => q.1 == pc)).map (fun q => q.2)
/-- from here the method ends with this outcome, in fewer than n instructions, its calls by 'call' -/
def pm_ev (G : pm_G) (call : pm_I → List Value → pm_S → pm_O → Prop) (mi : pm_I) : Nat → Nat → pm_L → List Value → pm_S → pm_O → Prop
  | 0, _, _, _, _, _ => False
  | n + 1, pc, ls, st, S, out => match pm_at mi pc with
    | none => False
    | some i => match pm_stp G mi pc i ls st S with
      | none => False
      | some (.inl (pc', ls', st', S')) => pm_ev G call mi n pc' ls' st' S' out
      | some (.inr (.inl (b, p1, p2, st'))) => if b = true then pm_ev G call mi n p1 ls st' S out else pm_ev G call mi n p2 ls st' S out
      | some (.inr (.inr (.inl (mj, As, st')))) => ∃ (r : Option Value) (S' : pm_S), call mj As S (r, S') ∧ pm_ev G call mi n (pc + 3) ls (r.toList ++ st') S' out
      | some (.inr (.inr (.inr v))) => out = (v, S)
/-- a call of a method, its depth below d; 'sp': calls that are given -/
def pm_rel (G : pm_G) (sp : pm_I → List Value → pm_S → pm_O → Prop) : Nat → pm_I → List Value → pm_S → pm_O → Prop
  | 0, _, _, _, _ => False
  | d + 1, mi, As, S, out => sp mi As S out ∨ ∃ n, pm_ev G (pm_rel G sp d) mi n 0 (lent (pi_L mi) As) [] S out
