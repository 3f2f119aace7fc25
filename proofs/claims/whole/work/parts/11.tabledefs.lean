/-! ===== what the program's tables must be ===== -/
/-- an instruction's length (0: a switch) -/
def pm_il (i : Instr) : Nat := match i with
  | .tableswitch _ _ _ _ => 0
  | .iload _ => 2
  | .lload _ => 2
  | .aload _ => 2
  | .istore _ => 2
  | .lstore _ => 2
  | .astore _ => 2
  | .bipush _ => 2
  | .newarray _ => 2
  | .sipush _ => 3
  | .iinc _ _ => 3
  | .ldc_w _ => 3
  | .ldc2_w _ => 3
  | .ifCond _ _ => 3
  | .if_icmp _ _ => 3
  | .ifnull _ => 3
  | .ifnonnull _ => 3
  | .goto _ => 3
  | .getfield _ => 3
  | .putfield _ => 3
  | .anewarray _ => 3
  | .new _ => 3
  | .invokestatic _ => 3
  | .invokevirtual _ => 3
  | .invokespecial _ => 3
  | _ => 1
def pm_Cl (cl : List vw_C) (Ts : List Cond) (ci : Nat) (C : String) (T : u_T) (N : Nat) (tf : Nat → FieldType) : Prop :=
  cl[ci]? = some (C, T, N) ∧ (∀ w ∈ u_ws C T N, w ∈ Ts) ∧ (∀ k, k < N → parseFieldDescriptor (T k).2.2.1 = some (tf k)) ∧ (∀ a, a < N → ∀ b, b < N → a ≠ b → (T a).2.1 ≠ (T b).2.1) ∧ ∀ k, k < N → (T k).1 = C
/-- a field's link -/
def pm_OF (cl : List vw_C) (Ts Ns : List Cond) (own : String) (co idx ci k : Nat) (ty : FieldType) (fin : Bool) : Prop :=
  ∃ (C : String) (T : u_T) (N : Nat) (tf : Nat → FieldType), pm_Cl cl Ts ci C T N tf ∧ k < N ∧ tf k = ty ∧ (T k).2.2.2 = fin ∧
    ((Cond.fieldLink own idx C (T k).2.1 (T k).2.2.1 ∈ Ts ∧ C = own) ∨ (ci ≠ co ∧ ∃ host, Cond.fieldLinkNest own idx C (T k).2.1 (T k).2.2.1 host ∈ Ns))
/-- new's link -/
def pm_ON (cl : List vw_C) (Ts : List Cond) (own : String) (idx ci : Nat) (fs : List Value) : Prop :=
  ∃ (C : String) (T : u_T) (N : Nat) (tf : Nat → FieldType), pm_Cl cl Ts ci C T N tf ∧ fs.length = N ∧ (∀ j, j < N → defaultValue (tf j) = vp_V fs j) ∧ Cond.classLink own idx C ∈ Ts ∧ Cond.instantiable C N ∈ Ts ∧ Cond.initialized C ∈ Ts
def pm_OQ (Ts : List Cond) (own : String) (idx t : Nat) : Prop :=
  (t = 4 ∧ Cond.classLink own idx "BuriedPairs$Plan" ∈ Ts ∧ Cond.arrayOver (.object "BuriedPairs$Plan") ∈ Ts) ∨ (t = 5 ∧ Cond.classLink own idx (FieldType.array .int).toString ∈ Ts ∧ Cond.arrayOver (.array .int) ∈ Ts)
def pm_OA (Ts : List Cond) : Prop := Cond.arrayClass .int ∈ Ts ∧ Cond.arrayClass .long ∈ Ts ∧ Cond.arrayClass .byte ∈ Ts ∧ Cond.arrayClass .boolean ∈ Ts
/-- a method whose rows are right -/
def pm_MOk (Ts : List Cond) (cn : Nat → String) (mj : pm_I) : Prop :=
  Cond.code (pi_y mj) (pi_b mj) (pi_L mj) (pi_r mj) ∈ Ts ∧ Cond.initialized (pi_y mj).cls ∈ Ts ∧ ((pi_y mj).cls ≠ "java/lang/invoke/MethodHandle" ∧ (pi_y mj).cls ≠ "java/lang/invoke/VarHandle" ∧ (parseMethodDescriptor (pi_y mj).desc).map (fun d => d.parameters.length) = some (pi_na mj)) ∧ pi_L mj ≤ 22 ∧ plainName (pi_y mj).cls = true ∧ cn (pi_co mj) = (pi_y mj).cls ∧ (pi_in mj = true → (pi_y mj).name = "<init>") ∧
  ∀ q ∈ pi_c mj, ∃ len, decode (pi_b mj) q.1 = .ok (q.2, len) ∧ (pm_il q.2 = 0 ∨ len = pm_il q.2)
/-- a link to a method -/
def pm_OL (Ts Ns : List Cond) (own : String) (idx : Nat) (y : MethodName) : Prop := Cond.methodLink own idx y ∈ Ts ∨ ∃ host, Cond.methodLinkNest own idx y host ∈ Ns
def pm_OM (cl : List vw_C) (Ts Ns : List Cond) (cn : Nat → String) (own : String) (idx : Nat) (mj : pm_I) (q : Nat) : Prop :=
  (q = 0 ∧ pm_MOk Ts cn mj ∧ pm_OL Ts Ns own idx (pi_y mj) ∧ Cond.static (pi_y mj) ∈ Ts) ∨
  (q = 1 ∧ pm_MOk Ts cn mj ∧ pm_OL Ts Ns own idx (pi_y mj) ∧ Cond.instanceMethod (pi_y mj) ∈ Ts ∧ Cond.selects (pi_y mj).cls (pi_y mj) (pi_y mj) ∈ Ts ∧ ∃ (T : u_T) (N : Nat), cl[pi_co mj]? = some ((pi_y mj).cls, T, N)) ∨
  (q = 2 ∧ pm_MOk Ts cn mj ∧ pm_OL Ts Ns own idx (pi_y mj) ∧ Cond.instanceMethod (pi_y mj) ∈ Ts ∧ (pi_y mj).name = "<init>" ∧ pi_r mj = none) ∨
  (q = 3 ∧ Cond.methodLink own idx objectInit ∈ Ts ∧ Cond.instanceMethod objectInit ∈ Ts ∧ Cond.code objectInit ⟨#[0xb1]⟩ 1 none ∈ Ts) ∨
  (q = 4 ∧ Cond.methodLink own idx arraycopyName ∈ Ts ∧ Cond.native arraycopyName ∈ Ts ∧ Cond.static arraycopyName ∈ Ts ∧ Cond.initialized "java/lang/System" ∈ Ts) ∨
  (q = 5 ∧ Cond.methodLink own idx Lib.Math.max.name ∈ Ts ∧ Cond.static Lib.Math.max.name ∈ Ts ∧ Cond.initialized "java/lang/Math" ∈ Ts ∧ Cond.code Lib.Math.max.name Lib.Math.max.code 2 (some .int) ∈ Ts) ∨
  (q = 6 ∧ Cond.methodLink own idx Lib.Math.min.name ∈ Ts ∧ Cond.static Lib.Math.min.name ∈ Ts ∧ Cond.initialized "java/lang/Math" ∈ Ts ∧ Cond.code Lib.Math.min.name Lib.Math.min.code 2 (some .int) ∈ Ts) ∨
  (q = 7 ∧ Cond.methodLink own idx Lib.Math.abs.name ∈ Ts ∧ Cond.static Lib.Math.abs.name ∈ Ts ∧ Cond.initialized "java/lang/Math" ∈ Ts ∧ Cond.code Lib.Math.abs.name Lib.Math.abs.code 1 (some .int) ∈ Ts) ∨ (q = 8 ∧ True)
def pm_OK1 (own : String) (idx : Nat) (Ts : List Cond) (v : Int32 ⊕ Int64) : Prop := match v with
  | .inl x => Cond.constant own idx x ∈ Ts
  | .inr x => Cond.constantLong own idx x ∈ Ts
/-- the program's tables are right -/
def pm_OK (G : pm_G) (cl : List vw_C) (Ts Ns : List Cond) (cn : Nat → String) : Prop :=
  (∀ w ∈ Ts, goodWord w = true) ∧ pm_OA Ts ∧ (∃ (T : u_T) (N : Nat), cl[4]? = some ("BuriedPairs$Plan", T, N)) ∧
  (∀ co idx ci k ty fin, pg_f G co idx = some (ci, k, ty, fin) → pm_OF cl Ts Ns (cn co) co idx ci k ty fin) ∧
  (∀ co idx mj q, pg_m G co idx = some (mj, q) → pm_OM cl Ts Ns cn (cn co) idx mj q) ∧
  (∀ co idx ci fs, pg_n G co idx = some (ci, fs) → pm_ON cl Ts (cn co) idx ci fs) ∧
  (∀ co idx t, pg_q G co idx = some t → pm_OQ Ts (cn co) idx t) ∧
  (∀ co idx v, pg_k G co idx = some v → pm_OK1 (cn co) idx Ts v)
