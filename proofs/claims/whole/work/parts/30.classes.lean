/-! ===== the claim's classes and methods, as data (written by wip/whole/gen/tables.py out of the printed tables) ===== -/
def pt_Ts : List Cond := lw_tbl.filter goodWord
def pt_w (i : Nat) (w : Cond) : Bool := decide (tables_1[i]? = some w) && goodWord w
theorem pt_w_ok {i : Nat} {w : Cond} (h : pt_w i w = true) : w ∈ pt_Ts := by
  unfold pt_w at h
  rw [Bool.and_eq_true, decide_eq_true_eq] at h
  exact List.mem_filter.mpr ⟨List.mem_append_right _ (List.mem_of_getElem? h.1), h.2⟩
theorem pt_n_ok {i : Nat} {w : Cond} (h : tables_1[i]? = some w) : w ∈ tables_1 := List.mem_of_getElem? h
def pt_s (w : Cond) : Bool := decide (w ∈ k2_sels lw_privs) && goodWord w
theorem pt_s_ok {w : Cond} (h : pt_s w = true) : w ∈ pt_Ts := by
  unfold pt_s at h
  rw [Bool.and_eq_true, decide_eq_true_eq] at h
  exact List.mem_filter.mpr ⟨List.mem_append_left _ h.1, h.2⟩
theorem pt_all {ws : List Cond} (h : ws.all (fun w => decide (w ∈ tables_1) && goodWord w) = true) : ∀ w ∈ ws, w ∈ pt_Ts := by
  intro w hw
  have := List.all_eq_true.mp h w hw
  rw [Bool.and_eq_true, decide_eq_true_eq] at this
  exact List.mem_filter.mpr ⟨List.mem_append_right _ this.1, this.2⟩
def pt_T0 : u_T := fun k => match k with
  | 0 => ("BuriedPairs$Bench", "wires", "LBuriedPairs$Wires;", true)
  | 1 => ("BuriedPairs$Bench", "tone", "LBuriedPairs$Tone;", true)
  | 2 => ("BuriedPairs$Bench", "fedBy", "[J", true)
  | 3 => ("BuriedPairs$Bench", "tally", "[I", true)
  | 4 => ("BuriedPairs$Bench", "largest", "I", false)
  | _ => ("BuriedPairs$Bench", "kinds", "I", false)
def pt_t0 : Nat → FieldType := fun k => match k with
  | 0 => .object "BuriedPairs$Wires"
  | 1 => .object "BuriedPairs$Tone"
  | 2 => .array .long
  | 3 => .array .int
  | 4 => .int
  | _ => .int
def pt_T1 : u_T := fun k => match k with
  | 0 => ("BuriedPairs$Layout", "onward", "[I", true)
  | 1 => ("BuriedPairs$Layout", "backward", "[I", true)
  | 2 => ("BuriedPairs$Layout", "hung", "[I", true)
  | _ => ("BuriedPairs$Layout", "home", "[I", true)
def pt_t1 : Nat → FieldType := fun k => match k with
  | 0 => .array .int
  | 1 => .array .int
  | 2 => .array .int
  | _ => .array .int
def pt_T2 : u_T := fun k => match k with
  | 0 => ("BuriedPairs$Ledger", "cells", "[I", true)
  | 1 => ("BuriedPairs$Ledger", "most", "I", true)
  | _ => ("BuriedPairs$Ledger", "rows", "I", false)
def pt_t2 : Nat → FieldType := fun k => match k with
  | 0 => .array .int
  | 1 => .int
  | _ => .int
def pt_T3 : u_T := fun k => match k with
  | 0 => ("BuriedPairs$Mover", "pairs", "[I", true)
  | 1 => ("BuriedPairs$Mover", "wants", "[I", true)
  | 2 => ("BuriedPairs$Mover", "list", "[I", true)
  | 3 => ("BuriedPairs$Mover", "open", "I", false)
  | 4 => ("BuriedPairs$Mover", "steppedAside", "I", false)
  | _ => ("BuriedPairs$Mover", "made", "I", false)
def pt_t3 : Nat → FieldType := fun k => match k with
  | 0 => .array .int
  | 1 => .array .int
  | 2 => .array .int
  | 3 => .int
  | 4 => .int
  | _ => .int
def pt_T4 : u_T := fun k => match k with
  | 0 => ("BuriedPairs$Plan", "boxes", "I", false)
  | 1 => ("BuriedPairs$Plan", "cables", "LBuriedPairs$Ledger;", true)
  | 2 => ("BuriedPairs$Plan", "comes", "[I", true)
  | 3 => ("BuriedPairs$Plan", "firstFeeder", "[I", true)
  | 4 => ("BuriedPairs$Plan", "text", "LBuriedPairs$Layout;", true)
  | 5 => ("BuriedPairs$Plan", "all", "LBuriedPairs$Layout;", true)
  | 6 => ("BuriedPairs$Plan", "slips", "LBuriedPairs$Ledger;", true)
  | 7 => ("BuriedPairs$Plan", "troubles", "LBuriedPairs$Ledger;", true)
  | 8 => ("BuriedPairs$Plan", "tests", "LBuriedPairs$Ledger;", true)
  | 9 => ("BuriedPairs$Plan", "readings", "LBuriedPairs$Ledger;", true)
  | 10 => ("BuriedPairs$Plan", "wanted", "[I", true)
  | _ => ("BuriedPairs$Plan", "sheet", "LBuriedPairs$Sheet;", true)
def pt_t4 : Nat → FieldType := fun k => match k with
  | 0 => .int
  | 1 => .object "BuriedPairs$Ledger"
  | 2 => .array .int
  | 3 => .array .int
  | 4 => .object "BuriedPairs$Layout"
  | 5 => .object "BuriedPairs$Layout"
  | 6 => .object "BuriedPairs$Ledger"
  | 7 => .object "BuriedPairs$Ledger"
  | 8 => .object "BuriedPairs$Ledger"
  | 9 => .object "BuriedPairs$Ledger"
  | 10 => .array .int
  | _ => .object "BuriedPairs$Sheet"
def pt_T5 : u_T := fun k => match k with
  | 0 => ("BuriedPairs$Sheet", "columns", "[[I", true)
  | 1 => ("BuriedPairs$Sheet", "fits", "[I", true)
  | 2 => ("BuriedPairs$Sheet", "ready", "I", false)
  | 3 => ("BuriedPairs$Sheet", "fitCount", "I", false)
  | _ => ("BuriedPairs$Sheet", "fresh", "Z", false)
def pt_t5 : Nat → FieldType := fun k => match k with
  | 0 => .array (.array .int)
  | 1 => .array .int
  | 2 => .int
  | 3 => .int
  | _ => .boolean
def pt_T6 : u_T := fun k => match k with
  | 0 => ("BuriedPairs$Tape", "bytes", "[I", true)
  | _ => ("BuriedPairs$Tape", "length", "I", false)
def pt_t6 : Nat → FieldType := fun k => match k with
  | 0 => .array .int
  | _ => .int
def pt_T7 : u_T := fun k => match k with
  | 0 => ("BuriedPairs$TextReader", "tape", "LBuriedPairs$Tape;", true)
  | 1 => ("BuriedPairs$TextReader", "at", "I", false)
  | _ => ("BuriedPairs$TextReader", "wrong", "I", false)
def pt_t7 : Nat → FieldType := fun k => match k with
  | 0 => .object "BuriedPairs$Tape"
  | 1 => .int
  | _ => .int
def pt_T8 : u_T := fun k => match k with
  | 0 => ("BuriedPairs$Tone", "reached", "[I", true)
  | 1 => ("BuriedPairs$Tone", "waiting", "[I", true)
  | 2 => ("BuriedPairs$Tone", "atNear", "[I", true)
  | 3 => ("BuriedPairs$Tone", "atFar", "[I", true)
  | _ => ("BuriedPairs$Tone", "waits", "I", false)
def pt_t8 : Nat → FieldType := fun k => match k with
  | 0 => .array .int
  | 1 => .array .int
  | 2 => .array .int
  | 3 => .array .int
  | _ => .int
def pt_T9 : u_T := fun k => match k with
  | 0 => ("BuriedPairs$Wires", "without", "LBuriedPairs$Layout;", true)
  | 1 => ("BuriedPairs$Wires", "comesOut", "[I", true)
  | 2 => ("BuriedPairs$Wires", "goesIn", "[I", true)
  | 3 => ("BuriedPairs$Wires", "cuts", "[I", true)
  | 4 => ("BuriedPairs$Wires", "breakWires", "[I", true)
  | 5 => ("BuriedPairs$Wires", "breakMetres", "[I", true)
  | 6 => ("BuriedPairs$Wires", "touchOnes", "[I", true)
  | 7 => ("BuriedPairs$Wires", "touchOthers", "[I", true)
  | 8 => ("BuriedPairs$Wires", "touchMetres", "[I", true)
  | 9 => ("BuriedPairs$Wires", "plan", "LBuriedPairs$Plan;", false)
  | 10 => ("BuriedPairs$Wires", "layout", "LBuriedPairs$Layout;", false)
  | 11 => ("BuriedPairs$Wires", "breaks", "I", false)
  | _ => ("BuriedPairs$Wires", "touches", "I", false)
def pt_t9 : Nat → FieldType := fun k => match k with
  | 0 => .object "BuriedPairs$Layout"
  | 1 => .array .int
  | 2 => .array .int
  | 3 => .array .int
  | 4 => .array .int
  | 5 => .array .int
  | 6 => .array .int
  | 7 => .array .int
  | 8 => .array .int
  | 9 => .object "BuriedPairs$Plan"
  | 10 => .object "BuriedPairs$Layout"
  | 11 => .int
  | _ => .int
def pt_T10 : u_T := fun k => match k with
  | 0 => ("BuriedPairs", "tape", "LBuriedPairs$Tape;", true)
  | 1 => ("BuriedPairs", "reader", "LBuriedPairs$TextReader;", true)
  | 2 => ("BuriedPairs", "plans", "[LBuriedPairs$Plan;", true)
  | 3 => ("BuriedPairs", "bench", "LBuriedPairs$Bench;", true)
  | 4 => ("BuriedPairs", "mover", "LBuriedPairs$Mover;", true)
  | 5 => ("BuriedPairs", "draft", "LBuriedPairs$Plan;", false)
  | _ => ("BuriedPairs", "told", "I", false)
def pt_t10 : Nat → FieldType := fun k => match k with
  | 0 => .object "BuriedPairs$Tape"
  | 1 => .object "BuriedPairs$TextReader"
  | 2 => .array (.object "BuriedPairs$Plan")
  | 3 => .object "BuriedPairs$Bench"
  | 4 => .object "BuriedPairs$Mover"
  | 5 => .object "BuriedPairs$Plan"
  | _ => .int
def pt_T11 : u_T := fun k => match k with
  | 0 => ("BuriedPairsModel", "thrown", "I", false)
  | 1 => ("BuriedPairsModel", "tape", "[B", true)
  | 2 => ("BuriedPairsModel", "length", "I", false)
  | 3 => ("BuriedPairsModel", "at", "I", false)
  | 4 => ("BuriedPairsModel", "fault", "I", false)
  | 5 => ("BuriedPairsModel", "number", "I", false)
  | 6 => ("BuriedPairsModel", "boxes", "[I", true)
  | 7 => ("BuriedPairsModel", "cables", "[I", true)
  | 8 => ("BuriedPairsModel", "from", "[I", true)
  | 9 => ("BuriedPairsModel", "to", "[I", true)
  | 10 => ("BuriedPairsModel", "pairs", "[I", true)
  | 11 => ("BuriedPairsModel", "metres", "[I", true)
  | 12 => ("BuriedPairsModel", "told", "[I", true)
  | 13 => ("BuriedPairsModel", "toldKind", "[I", true)
  | 14 => ("BuriedPairsModel", "toldX", "[I", true)
  | 15 => ("BuriedPairsModel", "toldP", "[I", true)
  | 16 => ("BuriedPairsModel", "toldY", "[I", true)
  | 17 => ("BuriedPairsModel", "toldQ", "[I", true)
  | 18 => ("BuriedPairsModel", "slips", "[I", true)
  | 19 => ("BuriedPairsModel", "plans", "I", false)
  | 20 => ("BuriedPairsModel", "faults", "[I", true)
  | 21 => ("BuriedPairsModel", "faultKind", "[I", true)
  | 22 => ("BuriedPairsModel", "faultX", "[I", true)
  | 23 => ("BuriedPairsModel", "faultP", "[I", true)
  | 24 => ("BuriedPairsModel", "faultQ", "[I", true)
  | 25 => ("BuriedPairsModel", "faultD", "[I", true)
  | 26 => ("BuriedPairsModel", "onto", "[I", true)
  | 27 => ("BuriedPairsModel", "onHouse", "[I", true)
  | 28 => ("BuriedPairsModel", "outAs", "[I", true)
  | 29 => ("BuriedPairsModel", "now", "I", false)
  | 30 => ("BuriedPairsModel", "worldNow", "I", false)
  | 31 => ("BuriedPairsModel", "breakX", "I", false)
  | 32 => ("BuriedPairsModel", "breakP", "I", false)
  | 33 => ("BuriedPairsModel", "breakD", "I", false)
  | 34 => ("BuriedPairsModel", "wetNow", "Z", false)
  | 35 => ("BuriedPairsModel", "reached", "[Z", true)
  | 36 => ("BuriedPairsModel", "feeding", "[J", true)
  | 37 => ("BuriedPairsModel", "tests", "[I", true)
  | 38 => ("BuriedPairsModel", "testKind", "[I", true)
  | 39 => ("BuriedPairsModel", "testX", "[I", true)
  | 40 => ("BuriedPairsModel", "testP", "[I", true)
  | 41 => ("BuriedPairsModel", "testEnd", "[I", true)
  | 42 => ("BuriedPairsModel", "testY", "[I", true)
  | 43 => ("BuriedPairsModel", "testIts", "[I", true)
  | 44 => ("BuriedPairsModel", "readings", "[I", true)
  | 45 => ("BuriedPairsModel", "readTest", "[I", true)
  | 46 => ("BuriedPairsModel", "readTold", "[I", true)
  | 47 => ("BuriedPairsModel", "readWet", "[Z", true)
  | 48 => ("BuriedPairsModel", "fit", "[Z", true)
  | 49 => ("BuriedPairsModel", "things", "[I", true)
  | 50 => ("BuriedPairsModel", "thingMany", "[I", true)
  | 51 => ("BuriedPairsModel", "kinds", "I", false)
  | 52 => ("BuriedPairsModel", "largest", "I", false)
  | 53 => ("BuriedPairsModel", "wants", "[I", true)
  | 54 => ("BuriedPairsModel", "feasible", "[Z", true)
  | 55 => ("BuriedPairsModel", "gone", "[Z", true)
  | 56 => ("BuriedPairsModel", "moved", "[I", true)
  | _ => ("BuriedPairsModel", "moveMany", "I", false)
def pt_t11 : Nat → FieldType := fun k => match k with
  | 0 => .int
  | 1 => .array .byte
  | 2 => .int
  | 3 => .int
  | 4 => .int
  | 5 => .int
  | 6 => .array .int
  | 7 => .array .int
  | 8 => .array .int
  | 9 => .array .int
  | 10 => .array .int
  | 11 => .array .int
  | 12 => .array .int
  | 13 => .array .int
  | 14 => .array .int
  | 15 => .array .int
  | 16 => .array .int
  | 17 => .array .int
  | 18 => .array .int
  | 19 => .int
  | 20 => .array .int
  | 21 => .array .int
  | 22 => .array .int
  | 23 => .array .int
  | 24 => .array .int
  | 25 => .array .int
  | 26 => .array .int
  | 27 => .array .int
  | 28 => .array .int
  | 29 => .int
  | 30 => .int
  | 31 => .int
  | 32 => .int
  | 33 => .int
  | 34 => .boolean
  | 35 => .array .boolean
  | 36 => .array .long
  | 37 => .array .int
  | 38 => .array .int
  | 39 => .array .int
  | 40 => .array .int
  | 41 => .array .int
  | 42 => .array .int
  | 43 => .array .int
  | 44 => .array .int
  | 45 => .array .int
  | 46 => .array .int
  | 47 => .array .boolean
  | 48 => .array .boolean
  | 49 => .array .int
  | 50 => .array .int
  | 51 => .int
  | 52 => .int
  | 53 => .array .int
  | 54 => .array .boolean
  | 55 => .array .boolean
  | 56 => .array .int
  | _ => .int
abbrev pt_cl : List vw_C := [("BuriedPairs$Bench", pt_T0, 6), ("BuriedPairs$Layout", pt_T1, 4), ("BuriedPairs$Ledger", pt_T2, 3), ("BuriedPairs$Mover", pt_T3, 6), ("BuriedPairs$Plan", pt_T4, 12), ("BuriedPairs$Sheet", pt_T5, 5), ("BuriedPairs$Tape", pt_T6, 2), ("BuriedPairs$TextReader", pt_T7, 3), ("BuriedPairs$Tone", pt_T8, 5), ("BuriedPairs$Wires", pt_T9, 13), ("BuriedPairs", pt_T10, 7), ("BuriedPairsModel", pt_T11, 58)]
def pt_cn (k : Nat) : String := (["BuriedPairs$Bench", "BuriedPairs$Layout", "BuriedPairs$Ledger", "BuriedPairs$Mover", "BuriedPairs$Plan", "BuriedPairs$Sheet", "BuriedPairs$Tape", "BuriedPairs$TextReader", "BuriedPairs$Tone", "BuriedPairs$Wires", "BuriedPairs", "BuriedPairsModel", "BuriedPairsLaw", "java/lang/Integer", "java/lang/Long", "java/lang/Math", "java/util/Arrays"] : List String).getD k ""
set_option maxRecDepth 100000 in
theorem pt_c0 : pm_Cl pt_cl pt_Ts 0 "BuriedPairs$Bench" pt_T0 6 pt_t0 := ⟨rfl, pt_all (by decide +kernel), by decide +kernel, by decide +kernel, by decide +kernel⟩
set_option maxRecDepth 100000 in
theorem pt_c1 : pm_Cl pt_cl pt_Ts 1 "BuriedPairs$Layout" pt_T1 4 pt_t1 := ⟨rfl, pt_all (by decide +kernel), by decide +kernel, by decide +kernel, by decide +kernel⟩
set_option maxRecDepth 100000 in
theorem pt_c2 : pm_Cl pt_cl pt_Ts 2 "BuriedPairs$Ledger" pt_T2 3 pt_t2 := ⟨rfl, pt_all (by decide +kernel), by decide +kernel, by decide +kernel, by decide +kernel⟩
set_option maxRecDepth 100000 in
theorem pt_c3 : pm_Cl pt_cl pt_Ts 3 "BuriedPairs$Mover" pt_T3 6 pt_t3 := ⟨rfl, pt_all (by decide +kernel), by decide +kernel, by decide +kernel, by decide +kernel⟩
set_option maxRecDepth 100000 in
theorem pt_c4 : pm_Cl pt_cl pt_Ts 4 "BuriedPairs$Plan" pt_T4 12 pt_t4 := ⟨rfl, pt_all (by decide +kernel), by decide +kernel, by decide +kernel, by decide +kernel⟩
set_option maxRecDepth 100000 in
theorem pt_c5 : pm_Cl pt_cl pt_Ts 5 "BuriedPairs$Sheet" pt_T5 5 pt_t5 := ⟨rfl, pt_all (by decide +kernel), by decide +kernel, by decide +kernel, by decide +kernel⟩
set_option maxRecDepth 100000 in
theorem pt_c6 : pm_Cl pt_cl pt_Ts 6 "BuriedPairs$Tape" pt_T6 2 pt_t6 := ⟨rfl, pt_all (by decide +kernel), by decide +kernel, by decide +kernel, by decide +kernel⟩
set_option maxRecDepth 100000 in
theorem pt_c7 : pm_Cl pt_cl pt_Ts 7 "BuriedPairs$TextReader" pt_T7 3 pt_t7 := ⟨rfl, pt_all (by decide +kernel), by decide +kernel, by decide +kernel, by decide +kernel⟩
set_option maxRecDepth 100000 in
theorem pt_c8 : pm_Cl pt_cl pt_Ts 8 "BuriedPairs$Tone" pt_T8 5 pt_t8 := ⟨rfl, pt_all (by decide +kernel), by decide +kernel, by decide +kernel, by decide +kernel⟩
set_option maxRecDepth 100000 in
theorem pt_c9 : pm_Cl pt_cl pt_Ts 9 "BuriedPairs$Wires" pt_T9 13 pt_t9 := ⟨rfl, pt_all (by decide +kernel), by decide +kernel, by decide +kernel, by decide +kernel⟩
set_option maxRecDepth 100000 in
theorem pt_c10 : pm_Cl pt_cl pt_Ts 10 "BuriedPairs" pt_T10 7 pt_t10 := ⟨rfl, pt_all (by decide +kernel), by decide +kernel, by decide +kernel, by decide +kernel⟩
set_option maxRecDepth 100000 in
theorem pt_c11 : pm_Cl pt_cl pt_Ts 11 "BuriedPairsModel" pt_T11 58 pt_t11 := ⟨rfl, pt_all (by decide +kernel), by decide +kernel, by decide +kernel, by decide +kernel⟩
def pt_dec (b : ByteArray) (q : Nat × Instr) : Bool := match decode b q.1 with
  | .ok (i, len) => decide (i = q.2) && (decide (pm_il q.2 = 0) || decide (len = pm_il q.2))
  | .error _ => false
theorem pt_dec_ok {b : ByteArray} {q : Nat × Instr} (h : pt_dec b q = true) : ∃ len, decode b q.1 = .ok (q.2, len) ∧ (pm_il q.2 = 0 ∨ len = pm_il q.2) := by
  unfold pt_dec at h
  split at h
  · rename_i i len hd
    simp only [Bool.and_eq_true, Bool.or_eq_true, decide_eq_true_eq] at h
    exact ⟨len, by rw [hd, h.1], h.2⟩
  · cases h
def pt_M (mj : pm_I) (a b : Nat) : Bool := pt_w a (Cond.code (pi_y mj) (pi_b mj) (pi_L mj) (pi_r mj)) && pt_w b (Cond.initialized (pi_y mj).cls) && decide ((pi_y mj).cls ≠ "java/lang/invoke/MethodHandle") && decide ((pi_y mj).cls ≠ "java/lang/invoke/VarHandle") && decide ((parseMethodDescriptor (pi_y mj).desc).map (fun d => d.parameters.length) = some (pi_na mj)) && decide (pi_L mj ≤ 22) && plainName (pi_y mj).cls && decide (pt_cn (pi_co mj) = (pi_y mj).cls) && (!(pi_in mj) || decide ((pi_y mj).name = "<init>")) && (pi_c mj).all (pt_dec (pi_b mj))
theorem pt_M_ok {mj : pm_I} {a b : Nat} (h : pt_M mj a b = true) : pm_MOk pt_Ts pt_cn mj := by
  unfold pt_M at h
  simp only [Bool.and_eq_true, decide_eq_true_eq] at h
  obtain ⟨⟨⟨⟨⟨⟨⟨⟨⟨h1, h2⟩, h3⟩, h4⟩, h5⟩, h6⟩, h7⟩, h8⟩, h9⟩, h10⟩ := h
  refine ⟨pt_w_ok h1, pt_w_ok h2, ⟨h3, h4, h5⟩, h6, h7, h8, fun z => ?_, fun q hq => pt_dec_ok (List.all_eq_true.mp h10 q hq)⟩
  rw [z] at h9
  simpa using h9
