/-! ===== THE PURE MACHINE: the claim's bytecode run over a map from addresses to cells, with no machine state; its soundness over W and Met stands in the next part ===== -/
/-- a method: its class's number, its parameters (without the receiver), a constructor?, name, bytes, locals, answer, instructions by pc -/
abbrev pm_I : Type := Nat × Nat × Bool × MethodName × ByteArray × Nat × Option FieldType × List (Nat × Instr)
abbrev pi_co (q : pm_I) : Nat := q.1
abbrev pi_na (q : pm_I) : Nat := q.2.1
abbrev pi_in (q : pm_I) : Bool := q.2.2.1
abbrev pi_y (q : pm_I) : MethodName := q.2.2.2.1
abbrev pi_b (q : pm_I) : ByteArray := q.2.2.2.2.1
abbrev pi_L (q : pm_I) : Nat := q.2.2.2.2.2.1
abbrev pi_r (q : pm_I) : Option FieldType := q.2.2.2.2.2.2.1
abbrev pi_c (q : pm_I) : List (Nat × Instr) := q.2.2.2.2.2.2.2
/-- a cell: an array (kind 0 int, 1 long, 2 byte, 3 boolean, 4 of plans, 5 of int arrays, 6 the script), or an object (its class's number, its fields) -/
abbrev pm_C : Type := (Nat × vp_A) ⊕ (Nat × List Value)
/-- the heap by address, where its own cells begin, where the next comes, slots made so far -/
abbrev pm_S : Type := (Nat → pm_C) × Nat × Nat × Nat
abbrev ps_h (S : pm_S) : Nat → pm_C := S.1
abbrev ps_lo (S : pm_S) : Nat := S.2.1
abbrev ps_hi (S : pm_S) : Nat := S.2.2.1
abbrev ps_z (S : pm_S) : Nat := S.2.2.2
/-- locals by place -/
abbrev pm_L : Type := List (Option Value)
abbrev pm_O : Type := Option Value × pm_S
/-- what an instruction does: goes on; branches; calls; returns -/
abbrev pm_X : Type := (Nat × pm_L × List Value × pm_S) ⊕ ((Bool × Nat × Nat × List Value) ⊕ ((pm_I × List Value × List Value) ⊕ Option Value))
/-- the program's links, by class number and index: fields (class, place, type, final); methods (the method, 0 static, 1 of an object, 2 a constructor, 3 Object's, 4 arraycopy, 5 max, 6 min, 7 abs, 8 static with a table of its own); new (class, its first fields); arrays of references (their kind); constants -/
abbrev pm_G : Type := (Nat → Nat → Option (Nat × Nat × FieldType × Bool)) × (Nat → Nat → Option (pm_I × Nat)) × (Nat → Nat → Option (Nat × List Value)) × (Nat → Nat → Option Nat) × (Nat → Nat → Option (Int32 ⊕ Int64))
abbrev pg_f (G : pm_G) := G.1
abbrev pg_m (G : pm_G) := G.2.1
abbrev pg_n (G : pm_G) := G.2.2.1
abbrev pg_q (G : pm_G) := G.2.2.2.1
abbrev pg_k (G : pm_G) := G.2.2.2.2
