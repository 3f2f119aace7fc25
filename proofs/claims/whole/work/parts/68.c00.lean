def G_BP_bytesIn_28 (N : Nat)  (x1 : Int32) (s : mst) : Option (Int32 × mst) :=
    some (x1, s)
theorem sG_BP_bytesIn_28 {h0 : Nat → pm_C} {B : Nat} {D : Nat → pd} {hi z N : Nat} (h : FX D hi)   {x1 : Int32} {s : mst} : F_BP_bytesIn_28 N  x1 (mkM h0 B D hi z s) = (G_BP_bytesIn_28 N  x1 s).map (cvM h0 B D hi z) := by
  simp only [F_BP_bytesIn_28, G_BP_bytesIn_28, Option.bind_some, Option.map_bind, Option.bind_map, Option.map_some, Option.map_none, Option.bind_none, apply_ite (Option.map _), if_true, Function.comp_def, cvM]
  all_goals rfl
def G_BP_bytesIn_22 (N : Nat) (rec5 : Int32 → Int32 → mst → Option (Int32 × mst)) (x0 : Int32) (x1 : Int32) (x2 : Int32) (s : mst) : Option (Int32 × mst) :=
    rec5 x1 (x2 + (-8)) s
theorem sG_BP_bytesIn_22 {h0 : Nat → pm_C} {B : Nat} {D : Nat → pd} {hi z N : Nat} (h : FX D hi) {rec5 : Int32 → Int32 → pm_S → Option (Int32 × pm_S)} {grec5 : Int32 → Int32 → mst → Option (Int32 × mst)} (hrec5 : ∀ (y1 : Int32) (y2 : Int32) (s : mst), rec5 y1 y2 (mkM h0 B D hi z s) = (grec5 y1 y2 s).map (cvM h0 B D hi z)) {x0 : Int32} {x1 : Int32} {x2 : Int32} {s : mst} : F_BP_bytesIn_22 N rec5 x0 x1 x2 (mkM h0 B D hi z s) = (G_BP_bytesIn_22 N grec5 x0 x1 x2 s).map (cvM h0 B D hi z) := by
  simp only [F_BP_bytesIn_22, G_BP_bytesIn_22, sG_BP_bytesIn_28 h, hrec5, Option.bind_some, Option.map_bind, Option.bind_map, Option.map_some, Option.map_none, Option.bind_none, apply_ite (Option.map _), if_true, Function.comp_def, cvM]
  all_goals rfl
def GB_BP_bytesIn_5 (N : Nat)  (rec5 : Int32 → Int32 → mst → Option (Int32 × mst)) (x0 : Int32) (x1 : Int32) (x2 : Int32) (s : mst) : Option (Int32 × mst) :=
    if x2 < 0 then
    G_BP_bytesIn_28 N x1 s
    else
    (if (((x0.toUInt32 >>> (Int32.toUInt32 x2 &&& Int32.toUInt32 31)).toInt32) &&& 255) = 0 then
    G_BP_bytesIn_22 N rec5 x0 x1 x2 s
    else
    G_BP_bytesIn_22 N rec5 x0 (x1 + 1) x2 s)
theorem sGB_BP_bytesIn_5 {h0 : Nat → pm_C} {B : Nat} {D : Nat → pd} {hi z N : Nat} (h : FX D hi) {rec5 : Int32 → Int32 → pm_S → Option (Int32 × pm_S)} {grec5 : Int32 → Int32 → mst → Option (Int32 × mst)} (hrec5 : ∀ (y1 : Int32) (y2 : Int32) (s : mst), rec5 y1 y2 (mkM h0 B D hi z s) = (grec5 y1 y2 s).map (cvM h0 B D hi z)) {x0 : Int32} {x1 : Int32} {x2 : Int32} {s : mst} : B_BP_bytesIn_5 N rec5 x0 x1 x2 (mkM h0 B D hi z s) = (GB_BP_bytesIn_5 N grec5 x0 x1 x2 s).map (cvM h0 B D hi z) := by
  simp only [B_BP_bytesIn_5, GB_BP_bytesIn_5, sG_BP_bytesIn_28 h, sG_BP_bytesIn_22 h hrec5, hrec5, Option.bind_some, Option.map_bind, Option.bind_map, Option.map_some, Option.map_none, Option.bind_none, apply_ite (Option.map _), if_true, Function.comp_def, cvM]
  all_goals rfl
def G_BP_bytesIn_5 (N : Nat)  (x0 : Int32) : Nat → Int32 → Int32 → mst → Option (Int32 × mst)
  | 0 => fun _ _ _ => none
  | n + 1 => fun x1 x2 s => GB_BP_bytesIn_5 N  (G_BP_bytesIn_5 N  x0 n) x0 x1 x2 s
theorem sG_BP_bytesIn_5 {h0 : Nat → pm_C} {B : Nat} {D : Nat → pd} {hi z N : Nat} (h : FX D hi)   {x0 : Int32} : ∀ (n : Nat) (x1 : Int32) (x2 : Int32) (s : mst), F_BP_bytesIn_5 N  x0 n x1 x2 (mkM h0 B D hi z s) = (G_BP_bytesIn_5 N  x0 n x1 x2 s).map (cvM h0 B D hi z) := by
  intro n
  induction n with
  | zero => intro x1 x2 s; rfl
  | succ n ih => intro x1 x2 s; exact sGB_BP_bytesIn_5 h  ih
def G_BP_bytesIn (N : Nat) (s : mst) (p0 : Int32) : Option (Int32 × mst) :=
    G_BP_bytesIn_5 N p0 N 0 24 s
theorem sg_BP_bytesIn {h0 : Nat → pm_C} {B : Nat} {D : Nat → pd} {hi z N : Nat} (h : FX D hi) {p0 : Int32} {s : mst} : F_BP_bytesIn N (mkM h0 B D hi z s)  p0 = (G_BP_bytesIn N s p0).map (cvM h0 B D hi z) := by
  simp only [F_BP_bytesIn, G_BP_bytesIn, sG_BP_bytesIn_28 h, sG_BP_bytesIn_5 h, Option.bind_some, Option.map_bind, Option.bind_map, Option.map_some, Option.map_none, Option.bind_none, apply_ite (Option.map _), if_true, Function.comp_def, cvM]
  all_goals rfl
def G_Tape_size (N : Nat) (s : mst)  : Option (Int32 × mst) :=
    some (s.1 1 1, s)
theorem sg_Tape_size {h0 : Nat → pm_C} {B : Nat} {D : Nat → pd} {hi z N : Nat} (h : FX D hi)  {s : mst} : F_Tape_size N (mkM h0 B D hi z s) (B + 1)  = (G_Tape_size N s ).map (cvM h0 B D hi z) := by
  simp only [F_Tape_size, G_Tape_size, rdm_1_1 h, rcm_1 h, Option.bind_some, Option.map_bind, Option.bind_map, Option.map_some, Option.map_none, Option.bind_none, apply_ite (Option.map _), if_true, Function.comp_def, cvM]
  all_goals rfl
def G_Tape_take_59 (N : Nat)   (s : mst) : Option mst :=
    some s
theorem sG_Tape_take_59 {h0 : Nat → pm_C} {B : Nat} {D : Nat → pd} {hi z N : Nat} (h : FX D hi)    {s : mst} : F_Tape_take_59 N   (mkM h0 B D hi z s) = (G_Tape_take_59 N   s).map (mkM h0 B D hi z) := by
  simp only [F_Tape_take_59, G_Tape_take_59, anm_2 h, rdm_1_0 h, rdm_1_1 h, vsm_2 h, wrm_1_1 h, Option.bind_some, Option.map_bind, Option.bind_map, Option.map_some, Option.map_none, Option.bind_none, apply_ite (Option.map _), if_true, Function.comp_def, cvM]
  all_goals rfl
def G_Tape_take_53 (N : Nat) (rec3 : Int32 → mst → Option mst) (x1 : Int32) (x2 : Int32) (s : mst) : Option mst :=
    rec3 (x2 + (-8)) s
theorem sG_Tape_take_53 {h0 : Nat → pm_C} {B : Nat} {D : Nat → pd} {hi z N : Nat} (h : FX D hi) {rec3 : Int32 → pm_S → Option pm_S} {grec3 : Int32 → mst → Option mst} (hrec3 : ∀ (y1 : Int32) (s : mst), rec3 y1 (mkM h0 B D hi z s) = (grec3 y1 s).map (mkM h0 B D hi z)) {x1 : Int32} {x2 : Int32} {s : mst} : F_Tape_take_53 N rec3 (B + 1) x1 x2 (mkM h0 B D hi z s) = (G_Tape_take_53 N grec3 x1 x2 s).map (mkM h0 B D hi z) := by
  simp only [F_Tape_take_53, G_Tape_take_53, anm_2 h, rdm_1_0 h, rdm_1_1 h, vsm_2 h, wrm_1_1 h, sG_Tape_take_59 h, hrec3, Option.bind_some, Option.map_bind, Option.bind_map, Option.map_some, Option.map_none, Option.bind_none, apply_ite (Option.map _), if_true, Function.comp_def, cvM]
  all_goals rfl
def GB_Tape_take_3 (N : Nat)  (rec3 : Int32 → mst → Option mst) (x1 : Int32) (x2 : Int32) (s : mst) : Option mst :=
    if x2 < 0 then
    G_Tape_take_59 N s
    else
    (if (((x1.toUInt32 >>> (Int32.toUInt32 x2 &&& Int32.toUInt32 31)).toInt32) &&& 255) = 0 then
    G_Tape_take_53 N rec3 x1 x2 s
    else
    (if 300 ≤ (s.1 1 1) then
    G_Tape_take_53 N rec3 x1 x2 s
    else
    G_Tape_take_53 N rec3 x1 x2 (wrI (vsI s 2 300 (s.1 1 1) (((x1.toUInt32 >>> (Int32.toUInt32 x2 &&& Int32.toUInt32 31)).toInt32) &&& 255)) 1 1 (((vsI s 2 300 (s.1 1 1) (((x1.toUInt32 >>> (Int32.toUInt32 x2 &&& Int32.toUInt32 31)).toInt32) &&& 255)).1 1 1) + 1))))
theorem sGB_Tape_take_3 {h0 : Nat → pm_C} {B : Nat} {D : Nat → pd} {hi z N : Nat} (h : FX D hi) {rec3 : Int32 → pm_S → Option pm_S} {grec3 : Int32 → mst → Option mst} (hrec3 : ∀ (y1 : Int32) (s : mst), rec3 y1 (mkM h0 B D hi z s) = (grec3 y1 s).map (mkM h0 B D hi z)) {x1 : Int32} {x2 : Int32} {s : mst} : B_Tape_take_3 N rec3 (B + 1) x1 x2 (mkM h0 B D hi z s) = (GB_Tape_take_3 N grec3 x1 x2 s).map (mkM h0 B D hi z) := by
  simp only [B_Tape_take_3, GB_Tape_take_3, anm_2 h, rdm_1_0 h, rdm_1_1 h, vsm_2 h, wrm_1_1 h, sG_Tape_take_59 h, sG_Tape_take_53 h hrec3, hrec3, Option.bind_some, Option.map_bind, Option.bind_map, Option.map_some, Option.map_none, Option.bind_none, apply_ite (Option.map _), if_true, Function.comp_def, cvM]
  all_goals rfl
def G_Tape_take_3 (N : Nat)  (x1 : Int32) : Nat → Int32 → mst → Option mst
  | 0 => fun _ _ => none
  | n + 1 => fun x2 s => GB_Tape_take_3 N  (G_Tape_take_3 N  x1 n) x1 x2 s
theorem sG_Tape_take_3 {h0 : Nat → pm_C} {B : Nat} {D : Nat → pd} {hi z N : Nat} (h : FX D hi)   {x1 : Int32} : ∀ (n : Nat) (x2 : Int32) (s : mst), F_Tape_take_3 N  (B + 1) x1 n x2 (mkM h0 B D hi z s) = (G_Tape_take_3 N  x1 n x2 s).map (mkM h0 B D hi z) := by
  intro n
  induction n with
  | zero => intro x2 s; rfl
  | succ n ih => intro x2 s; exact sGB_Tape_take_3 h  ih
def G_Tape_take (N : Nat) (s : mst) (p0 : Int32) : Option mst :=
    G_Tape_take_3 N p0 N 24 s
theorem sg_Tape_take {h0 : Nat → pm_C} {B : Nat} {D : Nat → pd} {hi z N : Nat} (h : FX D hi) {p0 : Int32} {s : mst} : F_Tape_take N (mkM h0 B D hi z s) (B + 1) p0 = (G_Tape_take N s p0).map (mkM h0 B D hi z) := by
  simp only [F_Tape_take, G_Tape_take, anm_2 h, rdm_1_0 h, rdm_1_1 h, vsm_2 h, wrm_1_1 h, sG_Tape_take_59 h, sG_Tape_take_3 h, rcm_1 h, Option.bind_some, Option.map_bind, Option.bind_map, Option.map_some, Option.map_none, Option.bind_none, apply_ite (Option.map _), if_true, Function.comp_def, cvM]
  all_goals rfl
def G_Tape_cutTo_12 (N : Nat)   (s : mst) : Option (Int32 × mst) :=
    some (0, s)
theorem sG_Tape_cutTo_12 {h0 : Nat → pm_C} {B : Nat} {D : Nat → pd} {hi z N : Nat} (h : FX D hi)    {s : mst} : F_Tape_cutTo_12 N   (mkM h0 B D hi z s) = (G_Tape_cutTo_12 N   s).map (cvM h0 B D hi z) := by
  simp only [F_Tape_cutTo_12, G_Tape_cutTo_12, rdm_1_1 h, wrm_1_1 h, Option.bind_some, Option.map_bind, Option.bind_map, Option.map_some, Option.map_none, Option.bind_none, apply_ite (Option.map _), if_true, Function.comp_def, cvM]
  all_goals rfl
def G_Tape_cutTo (N : Nat) (s : mst) (p0 : Int32) : Option (Int32 × mst) :=
    if p0 < 0 then
    G_Tape_cutTo_12 N s
    else
    (if p0 ≤ (s.1 1 1) then
    some (1, (wrI s 1 1 p0))
    else
    G_Tape_cutTo_12 N s)
theorem sg_Tape_cutTo {h0 : Nat → pm_C} {B : Nat} {D : Nat → pd} {hi z N : Nat} (h : FX D hi) {p0 : Int32} {s : mst} : F_Tape_cutTo N (mkM h0 B D hi z s) (B + 1) p0 = (G_Tape_cutTo N s p0).map (cvM h0 B D hi z) := by
  simp only [F_Tape_cutTo, G_Tape_cutTo, rdm_1_1 h, wrm_1_1 h, sG_Tape_cutTo_12 h, rcm_1 h, Option.bind_some, Option.map_bind, Option.bind_map, Option.map_some, Option.map_none, Option.bind_none, apply_ite (Option.map _), if_true, Function.comp_def, cvM]
  all_goals rfl
def G_BP_end (N : Nat) (s : mst) (p0 : Int32) : Option (Int32 × mst) :=
    (G_Tape_cutTo N s p0).bind fun r2 =>
    if r2.1 = 0 ∨ r2.1 = 1 then some (r2.1, r2.2) else none
theorem sg_BP_end {h0 : Nat → pm_C} {B : Nat} {D : Nat → pd} {hi z N : Nat} (h : FX D hi) {p0 : Int32} {s : mst} : F_BP_end N (mkM h0 B D hi z s) (B + 0) p0 = (G_BP_end N s p0).map (cvM h0 B D hi z) := by
  simp only [F_BP_end, G_BP_end, rdm_0_0 h, sg_Tape_cutTo h, rcm_0 h, Option.bind_some, Option.map_bind, Option.bind_map, Option.map_some, Option.map_none, Option.bind_none, apply_ite (Option.map _), if_true, Function.comp_def, cvM]
  all_goals rfl
def G_Tape_byteAt_20 (N : Nat)  (t0 : Int32) (s : mst) : Option (Int32 × mst) :=
    some (t0, s)
theorem sG_Tape_byteAt_20 {h0 : Nat → pm_C} {B : Nat} {D : Nat → pd} {hi z N : Nat} (h : FX D hi)   {t0 : Int32} {s : mst} : F_Tape_byteAt_20 N  t0 (mkM h0 B D hi z s) = (G_Tape_byteAt_20 N  t0 s).map (cvM h0 B D hi z) := by
  simp only [F_Tape_byteAt_20, G_Tape_byteAt_20, rdm_1_0 h, rdm_1_1 h, vam_2 h, Option.bind_some, Option.map_bind, Option.bind_map, Option.map_some, Option.map_none, Option.bind_none, apply_ite (Option.map _), if_true, Function.comp_def, cvM]
  all_goals rfl
def G_Tape_byteAt (N : Nat) (s : mst) (p0 : Int32) : Option (Int32 × mst) :=
    if (s.1 1 1) ≤ p0 then
    G_Tape_byteAt_20 N (-1) s
    else
    G_Tape_byteAt_20 N (vat 300 (s.1 2) p0) s
theorem sg_Tape_byteAt {h0 : Nat → pm_C} {B : Nat} {D : Nat → pd} {hi z N : Nat} (h : FX D hi) {p0 : Int32} {s : mst} : F_Tape_byteAt N (mkM h0 B D hi z s) (B + 1) p0 = (G_Tape_byteAt N s p0).map (cvM h0 B D hi z) := by
  simp only [F_Tape_byteAt, G_Tape_byteAt, rdm_1_0 h, rdm_1_1 h, vam_2 h, sG_Tape_byteAt_20 h, rcm_1 h, Option.bind_some, Option.map_bind, Option.bind_map, Option.map_some, Option.map_none, Option.bind_none, apply_ite (Option.map _), if_true, Function.comp_def, cvM]
  all_goals rfl
def G_Reader_skipBlanks_41 (N : Nat)   (s : mst) : Option mst :=
    some s
theorem sG_Reader_skipBlanks_41 {h0 : Nat → pm_C} {B : Nat} {D : Nat → pd} {hi z N : Nat} (h : FX D hi)    {s : mst} : F_Reader_skipBlanks_41 N   (mkM h0 B D hi z s) = (G_Reader_skipBlanks_41 N   s).map (mkM h0 B D hi z) := by
  simp only [F_Reader_skipBlanks_41, G_Reader_skipBlanks_41, rdm_3_0 h, rdm_3_1 h, sg_Tape_byteAt h, wrm_3_1 h, Option.bind_some, Option.map_bind, Option.bind_map, Option.map_some, Option.map_none, Option.bind_none, apply_ite (Option.map _), if_true, Function.comp_def, cvM]
  all_goals rfl
def GB_Reader_skipBlanks_2 (N : Nat)  (rec2 : Int32 → mst → Option mst)  (x1 : Int32) (s : mst) : Option mst :=
    if 300 ≤ x1 then
    G_Reader_skipBlanks_41 N s
    else
    ((G_Tape_byteAt N s (s.1 3 1)).bind fun r2 =>
    if r2.1 = 32 then
    rec2 (x1 + 1) (wrI r2.2 3 1 ((r2.2.1 3 1) + 1))
    else
    G_Reader_skipBlanks_41 N r2.2)
theorem sGB_Reader_skipBlanks_2 {h0 : Nat → pm_C} {B : Nat} {D : Nat → pd} {hi z N : Nat} (h : FX D hi) {rec2 : Int32 → pm_S → Option pm_S} {grec2 : Int32 → mst → Option mst} (hrec2 : ∀ (y1 : Int32) (s : mst), rec2 y1 (mkM h0 B D hi z s) = (grec2 y1 s).map (mkM h0 B D hi z)) {x1 : Int32} {s : mst} : B_Reader_skipBlanks_2 N rec2 (B + 3) x1 (mkM h0 B D hi z s) = (GB_Reader_skipBlanks_2 N grec2 x1 s).map (mkM h0 B D hi z) := by
  simp only [B_Reader_skipBlanks_2, GB_Reader_skipBlanks_2, rdm_3_0 h, rdm_3_1 h, sg_Tape_byteAt h, wrm_3_1 h, sG_Reader_skipBlanks_41 h, hrec2, Option.bind_some, Option.map_bind, Option.bind_map, Option.map_some, Option.map_none, Option.bind_none, apply_ite (Option.map _), if_true, Function.comp_def, cvM]
  all_goals rfl
def G_Reader_skipBlanks_2 (N : Nat)   : Nat → Int32 → mst → Option mst
  | 0 => fun _ _ => none
  | n + 1 => fun x1 s => GB_Reader_skipBlanks_2 N  (G_Reader_skipBlanks_2 N   n)  x1 s
theorem sG_Reader_skipBlanks_2 {h0 : Nat → pm_C} {B : Nat} {D : Nat → pd} {hi z N : Nat} (h : FX D hi)    : ∀ (n : Nat) (x1 : Int32) (s : mst), F_Reader_skipBlanks_2 N  (B + 3) n x1 (mkM h0 B D hi z s) = (G_Reader_skipBlanks_2 N   n x1 s).map (mkM h0 B D hi z) := by
  intro n
  induction n with
  | zero => intro x1 s; rfl
  | succ n ih => intro x1 s; exact sGB_Reader_skipBlanks_2 h  ih
def G_Reader_skipBlanks (N : Nat) (s : mst)  : Option mst :=
    G_Reader_skipBlanks_2 N  N 0 s
theorem sg_Reader_skipBlanks {h0 : Nat → pm_C} {B : Nat} {D : Nat → pd} {hi z N : Nat} (h : FX D hi)  {s : mst} : F_Reader_skipBlanks N (mkM h0 B D hi z s) (B + 3)  = (G_Reader_skipBlanks N s ).map (mkM h0 B D hi z) := by
  simp only [F_Reader_skipBlanks, G_Reader_skipBlanks, rdm_3_0 h, rdm_3_1 h, sg_Tape_byteAt h, wrm_3_1 h, sG_Reader_skipBlanks_41 h, sG_Reader_skipBlanks_2 h, rcm_3 h, Option.bind_some, Option.map_bind, Option.bind_map, Option.map_some, Option.map_none, Option.bind_none, apply_ite (Option.map _), if_true, Function.comp_def, cvM]
  all_goals rfl
def G_Reader_fail_13 (N : Nat)   (s : mst) : Option mst :=
    some s
theorem sG_Reader_fail_13 {h0 : Nat → pm_C} {B : Nat} {D : Nat → pd} {hi z N : Nat} (h : FX D hi)    {s : mst} : F_Reader_fail_13 N   (mkM h0 B D hi z s) = (G_Reader_fail_13 N   s).map (mkM h0 B D hi z) := by
  simp only [F_Reader_fail_13, G_Reader_fail_13, rdm_3_2 h, wrm_3_2 h, Option.bind_some, Option.map_bind, Option.bind_map, Option.map_some, Option.map_none, Option.bind_none, apply_ite (Option.map _), if_true, Function.comp_def, cvM]
  all_goals rfl
def G_Reader_fail (N : Nat) (s : mst) (p0 : Int32) : Option mst :=
    if (s.1 3 2) = (-1) then
    G_Reader_fail_13 N (wrI s 3 2 p0)
    else
    G_Reader_fail_13 N s
theorem sg_Reader_fail {h0 : Nat → pm_C} {B : Nat} {D : Nat → pd} {hi z N : Nat} (h : FX D hi) {p0 : Int32} {s : mst} : F_Reader_fail N (mkM h0 B D hi z s) (B + 3) p0 = (G_Reader_fail N s p0).map (mkM h0 B D hi z) := by
  simp only [F_Reader_fail, G_Reader_fail, rdm_3_2 h, wrm_3_2 h, sG_Reader_fail_13 h, rcm_3 h, Option.bind_some, Option.map_bind, Option.bind_map, Option.map_some, Option.map_none, Option.bind_none, apply_ite (Option.map _), if_true, Function.comp_def, cvM]
  all_goals rfl
def G_Reader_digitAt_29 (N : Nat)  (t0 : Int32) (s : mst) : Option (Int32 × mst) :=
    some (t0, s)
theorem sG_Reader_digitAt_29 {h0 : Nat → pm_C} {B : Nat} {D : Nat → pd} {hi z N : Nat} (h : FX D hi)   {t0 : Int32} {s : mst} : F_Reader_digitAt_29 N  t0 (mkM h0 B D hi z s) = (G_Reader_digitAt_29 N  t0 s).map (cvM h0 B D hi z) := by
  simp only [F_Reader_digitAt_29, G_Reader_digitAt_29, rdm_3_0 h, sg_Tape_byteAt h, Option.bind_some, Option.map_bind, Option.bind_map, Option.map_some, Option.map_none, Option.bind_none, apply_ite (Option.map _), if_true, Function.comp_def, cvM]
  all_goals rfl
def G_Reader_digitAt_28 (N : Nat)   (s : mst) : Option (Int32 × mst) :=
    G_Reader_digitAt_29 N (-1) s
theorem sG_Reader_digitAt_28 {h0 : Nat → pm_C} {B : Nat} {D : Nat → pd} {hi z N : Nat} (h : FX D hi)    {s : mst} : F_Reader_digitAt_28 N   (mkM h0 B D hi z s) = (G_Reader_digitAt_28 N   s).map (cvM h0 B D hi z) := by
  simp only [F_Reader_digitAt_28, G_Reader_digitAt_28, rdm_3_0 h, sg_Tape_byteAt h, sG_Reader_digitAt_29 h, Option.bind_some, Option.map_bind, Option.bind_map, Option.map_some, Option.map_none, Option.bind_none, apply_ite (Option.map _), if_true, Function.comp_def, cvM]
  all_goals rfl
def G_Reader_digitAt (N : Nat) (s : mst) (p0 : Int32) : Option (Int32 × mst) :=
    (G_Tape_byteAt N s p0).bind fun r2 =>
    if r2.1 < 48 then
    G_Reader_digitAt_28 N r2.2
    else
    (if 57 < r2.1 then
    G_Reader_digitAt_28 N r2.2
    else
    G_Reader_digitAt_29 N (r2.1 - 48) r2.2)
theorem sg_Reader_digitAt {h0 : Nat → pm_C} {B : Nat} {D : Nat → pd} {hi z N : Nat} (h : FX D hi) {p0 : Int32} {s : mst} : F_Reader_digitAt N (mkM h0 B D hi z s) (B + 3) p0 = (G_Reader_digitAt N s p0).map (cvM h0 B D hi z) := by
  simp only [F_Reader_digitAt, G_Reader_digitAt, rdm_3_0 h, sg_Tape_byteAt h, sG_Reader_digitAt_29 h, sG_Reader_digitAt_28 h, rcm_3 h, Option.bind_some, Option.map_bind, Option.bind_map, Option.map_some, Option.map_none, Option.bind_none, apply_ite (Option.map _), if_true, Function.comp_def, cvM]
  all_goals rfl
def G_Reader_number_129 (N : Nat)  (x3 : Int32) (s : mst) : Option (Int32 × mst) :=
    some (x3, s)
theorem sG_Reader_number_129 {h0 : Nat → pm_C} {B : Nat} {D : Nat → pd} {hi z N : Nat} (h : FX D hi)   {x3 : Int32} {s : mst} : F_Reader_number_129 N  x3 (mkM h0 B D hi z s) = (G_Reader_number_129 N  x3 s).map (cvM h0 B D hi z) := by
  simp only [F_Reader_number_129, G_Reader_number_129, rdm_3_0 h, rdm_3_1 h, rdm_3_2 h, sg_Reader_digitAt h, sg_Reader_fail h, sg_Reader_skipBlanks h, sg_Tape_byteAt h, wrm_3_1 h, Option.bind_some, Option.map_bind, Option.bind_map, Option.map_some, Option.map_none, Option.bind_none, apply_ite (Option.map _), if_true, Function.comp_def, cvM]
  all_goals rfl
def G_Reader_number_119 (N : Nat)  (x3 : Int32) (s : mst) : Option (Int32 × mst) :=
    (G_Reader_fail N s ((s.1 3 1) - 1)).bind fun s9 =>
    G_Reader_number_129 N x3 s9
theorem sG_Reader_number_119 {h0 : Nat → pm_C} {B : Nat} {D : Nat → pd} {hi z N : Nat} (h : FX D hi)   {x3 : Int32} {s : mst} : F_Reader_number_119 N  (B + 3) x3 (mkM h0 B D hi z s) = (G_Reader_number_119 N  x3 s).map (cvM h0 B D hi z) := by
  simp only [F_Reader_number_119, G_Reader_number_119, rdm_3_0 h, rdm_3_1 h, rdm_3_2 h, sg_Reader_digitAt h, sg_Reader_fail h, sg_Reader_skipBlanks h, sg_Tape_byteAt h, wrm_3_1 h, sG_Reader_number_129 h, Option.bind_some, Option.map_bind, Option.bind_map, Option.map_some, Option.map_none, Option.bind_none, apply_ite (Option.map _), if_true, Function.comp_def, cvM]
  all_goals rfl
def G_Reader_number_109 (N : Nat)  (x1 : Int32) (x2 : Int32) (x3 : Int32) (s : mst) : Option (Int32 × mst) :=
    if x3 < x1 then
    G_Reader_number_119 N x3 s
    else
    (if x3 ≤ x2 then
    G_Reader_number_129 N x3 s
    else
    G_Reader_number_119 N x3 s)
theorem sG_Reader_number_109 {h0 : Nat → pm_C} {B : Nat} {D : Nat → pd} {hi z N : Nat} (h : FX D hi)   {x1 : Int32} {x2 : Int32} {x3 : Int32} {s : mst} : F_Reader_number_109 N  (B + 3) x1 x2 x3 (mkM h0 B D hi z s) = (G_Reader_number_109 N  x1 x2 x3 s).map (cvM h0 B D hi z) := by
  simp only [F_Reader_number_109, G_Reader_number_109, rdm_3_0 h, rdm_3_1 h, rdm_3_2 h, sg_Reader_digitAt h, sg_Reader_fail h, sg_Reader_skipBlanks h, sg_Tape_byteAt h, wrm_3_1 h, sG_Reader_number_129 h, sG_Reader_number_119 h, Option.bind_some, Option.map_bind, Option.bind_map, Option.map_some, Option.map_none, Option.bind_none, apply_ite (Option.map _), if_true, Function.comp_def, cvM]
  all_goals rfl
def G_Reader_number_41 (N : Nat)  (x1 : Int32) (x2 : Int32) (s : mst) : Option (Int32 × mst) :=
    (G_Reader_digitAt N s (s.1 3 1)).bind fun r5 =>
    if r5.1 = (-1) then
    ((G_Reader_fail N r5.2 (r5.2.1 3 1)).bind fun s6 =>
    some ((-1), s6))
    else
    ((G_Reader_digitAt N (wrI r5.2 3 1 ((r5.2.1 3 1) + 1)) ((wrI r5.2 3 1 ((r5.2.1 3 1) + 1)).1 3 1)).bind fun r8 =>
    if r8.1 = (-1) then
    G_Reader_number_109 N x1 x2 r5.1 r8.2
    else
    G_Reader_number_109 N x1 x2 ((10 * r5.1) + r8.1) (wrI r8.2 3 1 ((r8.2.1 3 1) + 1)))
theorem sG_Reader_number_41 {h0 : Nat → pm_C} {B : Nat} {D : Nat → pd} {hi z N : Nat} (h : FX D hi)   {x1 : Int32} {x2 : Int32} {s : mst} : F_Reader_number_41 N  (B + 3) x1 x2 (mkM h0 B D hi z s) = (G_Reader_number_41 N  x1 x2 s).map (cvM h0 B D hi z) := by
  simp only [F_Reader_number_41, G_Reader_number_41, rdm_3_0 h, rdm_3_1 h, rdm_3_2 h, sg_Reader_digitAt h, sg_Reader_fail h, sg_Reader_skipBlanks h, sg_Tape_byteAt h, wrm_3_1 h, sG_Reader_number_129 h, sG_Reader_number_119 h, sG_Reader_number_109 h, Option.bind_some, Option.map_bind, Option.bind_map, Option.map_some, Option.map_none, Option.bind_none, apply_ite (Option.map _), if_true, Function.comp_def, cvM]
  all_goals rfl
def G_Reader_number (N : Nat) (s : mst) (p0 : Int32) (p1 : Int32) : Option (Int32 × mst) :=
    if (s.1 3 2) = (-1) then
    ((G_Tape_byteAt N s (s.1 3 1)).bind fun r2 =>
    if r2.1 = 32 then
    ((G_Reader_skipBlanks N r2.2 ).bind fun s3 =>
    G_Reader_number_41 N p0 p1 s3)
    else
    ((G_Reader_fail N r2.2 (r2.2.1 3 1)).bind fun s10 =>
    G_Reader_number_41 N p0 p1 s10))
    else
    some ((-1), s)
theorem sg_Reader_number {h0 : Nat → pm_C} {B : Nat} {D : Nat → pd} {hi z N : Nat} (h : FX D hi) {p0 : Int32} {p1 : Int32} {s : mst} : F_Reader_number N (mkM h0 B D hi z s) (B + 3) p0 p1 = (G_Reader_number N s p0 p1).map (cvM h0 B D hi z) := by
  simp only [F_Reader_number, G_Reader_number, rdm_3_0 h, rdm_3_1 h, rdm_3_2 h, sg_Reader_digitAt h, sg_Reader_fail h, sg_Reader_skipBlanks h, sg_Tape_byteAt h, wrm_3_1 h, sG_Reader_number_129 h, sG_Reader_number_119 h, sG_Reader_number_109 h, sG_Reader_number_41 h, rcm_3 h, Option.bind_some, Option.map_bind, Option.bind_map, Option.map_some, Option.map_none, Option.bind_none, apply_ite (Option.map _), if_true, Function.comp_def, cvM]
  all_goals rfl
def G_Reader_comesMore_23 (N : Nat)  (t0 : Int32) (s : mst) : Option (Int32 × mst) :=
    if t0 = 0 ∨ t0 = 1 then some (t0, s) else none
theorem sG_Reader_comesMore_23 {h0 : Nat → pm_C} {B : Nat} {D : Nat → pd} {hi z N : Nat} (h : FX D hi)   {t0 : Int32} {s : mst} : F_Reader_comesMore_23 N  t0 (mkM h0 B D hi z s) = (G_Reader_comesMore_23 N  t0 s).map (cvM h0 B D hi z) := by
  simp only [F_Reader_comesMore_23, G_Reader_comesMore_23, rdm_3_0 h, rdm_3_1 h, sg_Reader_skipBlanks h, sg_Tape_size h, Option.bind_some, Option.map_bind, Option.bind_map, Option.map_some, Option.map_none, Option.bind_none, apply_ite (Option.map _), if_true, Function.comp_def, cvM]
  all_goals rfl
def G_Reader_comesMore (N : Nat) (s : mst)  : Option (Int32 × mst) :=
    (G_Reader_skipBlanks N s ).bind fun s1 =>
    (G_Tape_size N s1 ).bind fun r3 =>
    if r3.1 ≤ (s1.1 3 1) then
    G_Reader_comesMore_23 N 0 r3.2
    else
    G_Reader_comesMore_23 N 1 r3.2
theorem sg_Reader_comesMore {h0 : Nat → pm_C} {B : Nat} {D : Nat → pd} {hi z N : Nat} (h : FX D hi)  {s : mst} : F_Reader_comesMore N (mkM h0 B D hi z s) (B + 3)  = (G_Reader_comesMore N s ).map (cvM h0 B D hi z) := by
  simp only [F_Reader_comesMore, G_Reader_comesMore, rdm_3_0 h, rdm_3_1 h, sg_Reader_skipBlanks h, sg_Tape_size h, sG_Reader_comesMore_23 h, rcm_3 h, Option.bind_some, Option.map_bind, Option.bind_map, Option.map_some, Option.map_none, Option.bind_none, apply_ite (Option.map _), if_true, Function.comp_def, cvM]
  all_goals rfl
def G_BP_siteOf (N : Nat) (s : mst) (p0 : Int32) (p1 : Int32) : Option (Int32 × mst) :=
    some ((8 * p0) + p1, s)
theorem sg_BP_siteOf {h0 : Nat → pm_C} {B : Nat} {D : Nat → pd} {hi z N : Nat} (h : FX D hi) {p0 : Int32} {p1 : Int32} {s : mst} : F_BP_siteOf N (mkM h0 B D hi z s)  p0 p1 = (G_BP_siteOf N s p0 p1).map (cvM h0 B D hi z) := by
  simp only [F_BP_siteOf, G_BP_siteOf, Option.bind_some, Option.map_bind, Option.bind_map, Option.map_some, Option.map_none, Option.bind_none, apply_ite (Option.map _), if_true, Function.comp_def, cvM]
  all_goals rfl
def G_BP_isHouse_15 (N : Nat)  (t0 : Int32) (s : mst) : Option (Int32 × mst) :=
    if t0 = 0 ∨ t0 = 1 then some (t0, s) else none
theorem sG_BP_isHouse_15 {h0 : Nat → pm_C} {B : Nat} {D : Nat → pd} {hi z N : Nat} (h : FX D hi)   {t0 : Int32} {s : mst} : F_BP_isHouse_15 N  t0 (mkM h0 B D hi z s) = (G_BP_isHouse_15 N  t0 s).map (cvM h0 B D hi z) := by
  simp only [F_BP_isHouse_15, G_BP_isHouse_15, Option.bind_some, Option.map_bind, Option.bind_map, Option.map_some, Option.map_none, Option.bind_none, apply_ite (Option.map _), if_true, Function.comp_def, cvM]
  all_goals rfl
def G_BP_isHouse_14 (N : Nat)   (s : mst) : Option (Int32 × mst) :=
    G_BP_isHouse_15 N 0 s
theorem sG_BP_isHouse_14 {h0 : Nat → pm_C} {B : Nat} {D : Nat → pd} {hi z N : Nat} (h : FX D hi)    {s : mst} : F_BP_isHouse_14 N   (mkM h0 B D hi z s) = (G_BP_isHouse_14 N   s).map (cvM h0 B D hi z) := by
  simp only [F_BP_isHouse_14, G_BP_isHouse_14, sG_BP_isHouse_15 h, Option.bind_some, Option.map_bind, Option.bind_map, Option.map_some, Option.map_none, Option.bind_none, apply_ite (Option.map _), if_true, Function.comp_def, cvM]
  all_goals rfl
def G_BP_isHouse (N : Nat) (s : mst) (p0 : Int32) : Option (Int32 × mst) :=
    if p0 < 0 then
    G_BP_isHouse_14 N s
    else
    (if 10 ≤ p0 then
    G_BP_isHouse_14 N s
    else
    G_BP_isHouse_15 N 1 s)
theorem sg_BP_isHouse {h0 : Nat → pm_C} {B : Nat} {D : Nat → pd} {hi z N : Nat} (h : FX D hi) {p0 : Int32} {s : mst} : F_BP_isHouse N (mkM h0 B D hi z s)  p0 = (G_BP_isHouse N s p0).map (cvM h0 B D hi z) := by
  simp only [F_BP_isHouse, G_BP_isHouse, sG_BP_isHouse_15 h, sG_BP_isHouse_14 h, Option.bind_some, Option.map_bind, Option.bind_map, Option.map_some, Option.map_none, Option.bind_none, apply_ite (Option.map _), if_true, Function.comp_def, cvM]
  all_goals rfl
def G_BP_isEnd_14 (N : Nat)  (t0 : Int32) (s : mst) : Option (Int32 × mst) :=
    if t0 = 0 ∨ t0 = 1 then some (t0, s) else none
theorem sG_BP_isEnd_14 {h0 : Nat → pm_C} {B : Nat} {D : Nat → pd} {hi z N : Nat} (h : FX D hi)   {t0 : Int32} {s : mst} : F_BP_isEnd_14 N  t0 (mkM h0 B D hi z s) = (G_BP_isEnd_14 N  t0 s).map (cvM h0 B D hi z) := by
  simp only [F_BP_isEnd_14, G_BP_isEnd_14, Option.bind_some, Option.map_bind, Option.bind_map, Option.map_some, Option.map_none, Option.bind_none, apply_ite (Option.map _), if_true, Function.comp_def, cvM]
  all_goals rfl
def G_BP_isEnd_9 (N : Nat)   (s : mst) : Option (Int32 × mst) :=
    G_BP_isEnd_14 N 1 s
theorem sG_BP_isEnd_9 {h0 : Nat → pm_C} {B : Nat} {D : Nat → pd} {hi z N : Nat} (h : FX D hi)    {s : mst} : F_BP_isEnd_9 N   (mkM h0 B D hi z s) = (G_BP_isEnd_9 N   s).map (cvM h0 B D hi z) := by
  simp only [F_BP_isEnd_9, G_BP_isEnd_9, sG_BP_isEnd_14 h, Option.bind_some, Option.map_bind, Option.bind_map, Option.map_some, Option.map_none, Option.bind_none, apply_ite (Option.map _), if_true, Function.comp_def, cvM]
  all_goals rfl
def G_BP_isEnd (N : Nat) (s : mst) (p0 : Int32) : Option (Int32 × mst) :=
    if p0 = 0 then
    G_BP_isEnd_9 N s
    else
    (if p0 = 1 then
    G_BP_isEnd_9 N s
    else
    G_BP_isEnd_14 N 0 s)
theorem sg_BP_isEnd {h0 : Nat → pm_C} {B : Nat} {D : Nat → pd} {hi z N : Nat} (h : FX D hi) {p0 : Int32} {s : mst} : F_BP_isEnd N (mkM h0 B D hi z s)  p0 = (G_BP_isEnd N s p0).map (cvM h0 B D hi z) := by
  simp only [F_BP_isEnd, G_BP_isEnd, sG_BP_isEnd_14 h, sG_BP_isEnd_9 h, Option.bind_some, Option.map_bind, Option.bind_map, Option.map_some, Option.map_none, Option.bind_none, apply_ite (Option.map _), if_true, Function.comp_def, cvM]
  all_goals rfl
def G_Wires_cross (N : Nat) (s : mst) (p0 : Int32) (p1 : Int32) : Option mst :=
    some (vsI (vsI (vsI (vsI s 13 56 p0 (vat 56 (s.1 13) p1)) 13 56 p1 (vat 56 (s.1 13) p0)) 12 56 (vat 56 (s.1 13) p0) p1) 12 56 (vat 56 (s.1 13) p1) p0)
theorem sg_Wires_cross {h0 : Nat → pm_C} {B : Nat} {D : Nat → pd} {hi z N : Nat} (h : FX D hi) {p0 : Int32} {p1 : Int32} {s : mst} : F_Wires_cross N (mkM h0 B D hi z s) (B + 6) p0 p1 = (G_Wires_cross N s p0 p1).map (mkM h0 B D hi z) := by
  simp only [F_Wires_cross, G_Wires_cross, rdm_6_1 h, rdm_6_2 h, vam_13 h, vsm_12 h, vsm_13 h, rcm_6 h, Option.bind_some, Option.map_bind, Option.bind_map, Option.map_some, Option.map_none, Option.bind_none, apply_ite (Option.map _), if_true, Function.comp_def, cvM]
  all_goals rfl
def G_Wires_cut_64 (N : Nat)   (s : mst) : Option mst :=
    some s
theorem sG_Wires_cut_64 {h0 : Nat → pm_C} {B : Nat} {D : Nat → pd} {hi z N : Nat} (h : FX D hi)    {s : mst} : F_Wires_cut_64 N   (mkM h0 B D hi z s) = (G_Wires_cut_64 N   s).map (mkM h0 B D hi z) := by
  simp only [F_Wires_cut_64, G_Wires_cut_64, anm_15 h, rdm_6_11 h, rdm_6_3 h, rdm_6_4 h, rdm_6_5 h, vam_14 h, vsm_14 h, vsm_15 h, vsm_16 h, wrm_6_11 h, Option.bind_some, Option.map_bind, Option.bind_map, Option.map_some, Option.map_none, Option.bind_none, apply_ite (Option.map _), if_true, Function.comp_def, cvM]
  all_goals rfl
def G_Wires_cut (N : Nat) (s : mst) (p0 : Int32) (p1 : Int32) : Option mst :=
    if 10 ≤ (s.1 6 11) then
    G_Wires_cut_64 N s
    else
    G_Wires_cut_64 N (wrI (vsI (vsI (vsI s 15 10 (s.1 6 11) p0) 16 10 ((vsI s 15 10 (s.1 6 11) p0).1 6 11) p1) 14 56 p0 ((vat 56 ((vsI (vsI s 15 10 (s.1 6 11) p0) 16 10 ((vsI s 15 10 (s.1 6 11) p0).1 6 11) p1).1 14) p0) + 1)) 6 11 (((vsI (vsI (vsI s 15 10 (s.1 6 11) p0) 16 10 ((vsI s 15 10 (s.1 6 11) p0).1 6 11) p1) 14 56 p0 ((vat 56 ((vsI (vsI s 15 10 (s.1 6 11) p0) 16 10 ((vsI s 15 10 (s.1 6 11) p0).1 6 11) p1).1 14) p0) + 1)).1 6 11) + 1))
theorem sg_Wires_cut {h0 : Nat → pm_C} {B : Nat} {D : Nat → pd} {hi z N : Nat} (h : FX D hi) {p0 : Int32} {p1 : Int32} {s : mst} : F_Wires_cut N (mkM h0 B D hi z s) (B + 6) p0 p1 = (G_Wires_cut N s p0 p1).map (mkM h0 B D hi z) := by
  simp only [F_Wires_cut, G_Wires_cut, anm_15 h, rdm_6_11 h, rdm_6_3 h, rdm_6_4 h, rdm_6_5 h, vam_14 h, vsm_14 h, vsm_15 h, vsm_16 h, wrm_6_11 h, sG_Wires_cut_64 h, rcm_6 h, Option.bind_some, Option.map_bind, Option.bind_map, Option.map_some, Option.map_none, Option.bind_none, apply_ite (Option.map _), if_true, Function.comp_def, cvM]
  all_goals rfl
def G_Wires_bringTogether_58 (N : Nat)   (s : mst) : Option mst :=
    some s
theorem sG_Wires_bringTogether_58 {h0 : Nat → pm_C} {B : Nat} {D : Nat → pd} {hi z N : Nat} (h : FX D hi)    {s : mst} : F_Wires_bringTogether_58 N   (mkM h0 B D hi z s) = (G_Wires_bringTogether_58 N   s).map (mkM h0 B D hi z) := by
  simp only [F_Wires_bringTogether_58, G_Wires_bringTogether_58, anm_17 h, rdm_6_12 h, rdm_6_6 h, rdm_6_7 h, rdm_6_8 h, vsm_17 h, vsm_18 h, vsm_19 h, wrm_6_12 h, Option.bind_some, Option.map_bind, Option.bind_map, Option.map_some, Option.map_none, Option.bind_none, apply_ite (Option.map _), if_true, Function.comp_def, cvM]
  all_goals rfl
def G_Wires_bringTogether (N : Nat) (s : mst) (p0 : Int32) (p1 : Int32) (p2 : Int32) : Option mst :=
    if 10 ≤ (s.1 6 12) then
    G_Wires_bringTogether_58 N s
    else
    G_Wires_bringTogether_58 N (wrI (vsI (vsI (vsI s 17 10 (s.1 6 12) p0) 18 10 ((vsI s 17 10 (s.1 6 12) p0).1 6 12) p1) 19 10 ((vsI (vsI s 17 10 (s.1 6 12) p0) 18 10 ((vsI s 17 10 (s.1 6 12) p0).1 6 12) p1).1 6 12) p2) 6 12 (((vsI (vsI (vsI s 17 10 (s.1 6 12) p0) 18 10 ((vsI s 17 10 (s.1 6 12) p0).1 6 12) p1) 19 10 ((vsI (vsI s 17 10 (s.1 6 12) p0) 18 10 ((vsI s 17 10 (s.1 6 12) p0).1 6 12) p1).1 6 12) p2).1 6 12) + 1))
theorem sg_Wires_bringTogether {h0 : Nat → pm_C} {B : Nat} {D : Nat → pd} {hi z N : Nat} (h : FX D hi) {p0 : Int32} {p1 : Int32} {p2 : Int32} {s : mst} : F_Wires_bringTogether N (mkM h0 B D hi z s) (B + 6) p0 p1 p2 = (G_Wires_bringTogether N s p0 p1 p2).map (mkM h0 B D hi z) := by
  simp only [F_Wires_bringTogether, G_Wires_bringTogether, anm_17 h, rdm_6_12 h, rdm_6_6 h, rdm_6_7 h, rdm_6_8 h, vsm_17 h, vsm_18 h, vsm_19 h, wrm_6_12 h, sG_Wires_bringTogether_58 h, rcm_6 h, Option.bind_some, Option.map_bind, Option.bind_map, Option.map_some, Option.map_none, Option.bind_none, apply_ite (Option.map _), if_true, Function.comp_def, cvM]
  all_goals rfl
def G_Wires_wireAt_16 (N : Nat)  (t0 : Int32) (s : mst) : Option (Int32 × mst) :=
    some (t0, s)
theorem sG_Wires_wireAt_16 {h0 : Nat → pm_C} {B : Nat} {D : Nat → pd} {hi z N : Nat} (h : FX D hi)   {t0 : Int32} {s : mst} : F_Wires_wireAt_16 N  t0 (mkM h0 B D hi z s) = (G_Wires_wireAt_16 N  t0 s).map (cvM h0 B D hi z) := by
  simp only [F_Wires_wireAt_16, G_Wires_wireAt_16, rdm_6_2 h, vam_13 h, Option.bind_some, Option.map_bind, Option.bind_map, Option.map_some, Option.map_none, Option.bind_none, apply_ite (Option.map _), if_true, Function.comp_def, cvM]
  all_goals rfl
def G_Wires_wireAt (N : Nat) (s : mst) (p0 : Int32) (p1 : Int32) : Option (Int32 × mst) :=
    if p1 = 0 then
    G_Wires_wireAt_16 N p0 s
    else
    G_Wires_wireAt_16 N (vat 56 (s.1 13) p0) s
theorem sg_Wires_wireAt {h0 : Nat → pm_C} {B : Nat} {D : Nat → pd} {hi z N : Nat} (h : FX D hi) {p0 : Int32} {p1 : Int32} {s : mst} : F_Wires_wireAt N (mkM h0 B D hi z s) (B + 6) p0 p1 = (G_Wires_wireAt N s p0 p1).map (cvM h0 B D hi z) := by
  simp only [F_Wires_wireAt, G_Wires_wireAt, rdm_6_2 h, vam_13 h, sG_Wires_wireAt_16 h, rcm_6 h, Option.bind_some, Option.map_bind, Option.bind_map, Option.map_some, Option.map_none, Option.bind_none, apply_ite (Option.map _), if_true, Function.comp_def, cvM]
  all_goals rfl
def G_Wires_pieceAtEnd_16 (N : Nat)  (t0 : Int32) (s : mst) : Option (Int32 × mst) :=
    some (t0, s)
theorem sG_Wires_pieceAtEnd_16 {h0 : Nat → pm_C} {B : Nat} {D : Nat → pd} {hi z N : Nat} (h : FX D hi)   {t0 : Int32} {s : mst} : F_Wires_pieceAtEnd_16 N  t0 (mkM h0 B D hi z s) = (G_Wires_pieceAtEnd_16 N  t0 s).map (cvM h0 B D hi z) := by
  simp only [F_Wires_pieceAtEnd_16, G_Wires_pieceAtEnd_16, rdm_6_3 h, vam_14 h, Option.bind_some, Option.map_bind, Option.bind_map, Option.map_some, Option.map_none, Option.bind_none, apply_ite (Option.map _), if_true, Function.comp_def, cvM]
  all_goals rfl
def G_Wires_pieceAtEnd (N : Nat) (s : mst) (p0 : Int32) (p1 : Int32) : Option (Int32 × mst) :=
    if p1 = 0 then
    G_Wires_pieceAtEnd_16 N 0 s
    else
    G_Wires_pieceAtEnd_16 N (vat 56 (s.1 14) p0) s
theorem sg_Wires_pieceAtEnd {h0 : Nat → pm_C} {B : Nat} {D : Nat → pd} {hi z N : Nat} (h : FX D hi) {p0 : Int32} {p1 : Int32} {s : mst} : F_Wires_pieceAtEnd N (mkM h0 B D hi z s) (B + 6) p0 p1 = (G_Wires_pieceAtEnd N s p0 p1).map (cvM h0 B D hi z) := by
  simp only [F_Wires_pieceAtEnd, G_Wires_pieceAtEnd, rdm_6_3 h, vam_14 h, sG_Wires_pieceAtEnd_16 h, rcm_6 h, Option.bind_some, Option.map_bind, Option.bind_map, Option.map_some, Option.map_none, Option.bind_none, apply_ite (Option.map _), if_true, Function.comp_def, cvM]
  all_goals rfl
def G_Tone_come_78 (N : Nat)   (s : mst) : Option mst :=
    some s
theorem sG_Tone_come_78 {h0 : Nat → pm_C} {B : Nat} {D : Nat → pd} {hi z N : Nat} (h : FX D hi)    {s : mst} : F_Tone_come_78 N   (mkM h0 B D hi z s) = (G_Tone_come_78 N   s).map (mkM h0 B D hi z) := by
  simp only [F_Tone_come_78, G_Tone_come_78, anm_49 h, rdm_47_0 h, rdm_47_1 h, rdm_47_4 h, vam_48 h, vsm_48 h, vsm_49 h, wrm_47_4 h, Option.bind_some, Option.map_bind, Option.bind_map, Option.map_some, Option.map_none, Option.bind_none, apply_ite (Option.map _), if_true, Function.comp_def, cvM]
  all_goals rfl
def G_Tone_come (N : Nat) (s : mst) (p0 : Int32) (p1 : Int32) : Option mst :=
    if p0 < 0 then
    G_Tone_come_78 N s
    else
    (if 56 ≤ p0 then
    G_Tone_come_78 N s
    else
    (if (((vat 56 (s.1 48) p0) >>> (p1 &&& 31)) &&& 1) = 0 then
    (if 616 ≤ (s.1 47 4) then
    G_Tone_come_78 N s
    else
    G_Tone_come_78 N (wrI (vsI (vsI s 48 56 p0 ((vat 56 (s.1 48) p0) ||| (1 <<< (p1 &&& 31)))) 49 616 ((vsI s 48 56 p0 ((vat 56 (s.1 48) p0) ||| (1 <<< (p1 &&& 31)))).1 47 4) ((p0 <<< (4 &&& 31)) ||| p1)) 47 4 (((vsI (vsI s 48 56 p0 ((vat 56 (s.1 48) p0) ||| (1 <<< (p1 &&& 31)))) 49 616 ((vsI s 48 56 p0 ((vat 56 (s.1 48) p0) ||| (1 <<< (p1 &&& 31)))).1 47 4) ((p0 <<< (4 &&& 31)) ||| p1)).1 47 4) + 1)))
    else
    G_Tone_come_78 N s))
theorem sg_Tone_come {h0 : Nat → pm_C} {B : Nat} {D : Nat → pd} {hi z N : Nat} (h : FX D hi) {p0 : Int32} {p1 : Int32} {s : mst} : F_Tone_come N (mkM h0 B D hi z s) (B + 47) p0 p1 = (G_Tone_come N s p0 p1).map (mkM h0 B D hi z) := by
  simp only [F_Tone_come, G_Tone_come, anm_49 h, rdm_47_0 h, rdm_47_1 h, rdm_47_4 h, vam_48 h, vsm_48 h, vsm_49 h, wrm_47_4 h, sG_Tone_come_78 h, rcm_47 h, Option.bind_some, Option.map_bind, Option.bind_map, Option.map_some, Option.map_none, Option.bind_none, apply_ite (Option.map _), if_true, Function.comp_def, cvM]
  all_goals rfl
def G_BP_cableOf (N : Nat) (s : mst) (p0 : Int32) : Option (Int32 × mst) :=
    some (p0 >>> (3 &&& 31), s)
theorem sg_BP_cableOf {h0 : Nat → pm_C} {B : Nat} {D : Nat → pd} {hi z N : Nat} (h : FX D hi) {p0 : Int32} {s : mst} : F_BP_cableOf N (mkM h0 B D hi z s)  p0 = (G_BP_cableOf N s p0).map (cvM h0 B D hi z) := by
  simp only [F_BP_cableOf, G_BP_cableOf, Option.bind_some, Option.map_bind, Option.bind_map, Option.map_some, Option.map_none, Option.bind_none, apply_ite (Option.map _), if_true, Function.comp_def, cvM]
  all_goals rfl
def G_Tone_comesTo_15 (N : Nat)  (x1 : Int32) (s : mst) : Option (Int32 × mst) :=
    some (vat 7 (s.1 50) x1, s)
theorem sG_Tone_comesTo_15 {h0 : Nat → pm_C} {B : Nat} {D : Nat → pd} {hi z N : Nat} (h : FX D hi)   {x1 : Int32} {s : mst} : F_Tone_comesTo_15_2 N  x1 (B + 50) (mkM h0 B D hi z s) = (G_Tone_comesTo_15 N  x1 s).map (cvM h0 B D hi z) := by
  simp only [F_Tone_comesTo_15_2, G_Tone_comesTo_15, rdm_47_2 h, rdm_47_3 h, vam_50 h, vam_51 h, Option.bind_some, Option.map_bind, Option.bind_map, Option.map_some, Option.map_none, Option.bind_none, apply_ite (Option.map _), if_true, Function.comp_def, cvM]
  all_goals rfl
def G_Tone_comesTo_15_2 (N : Nat)  (x1 : Int32) (s : mst) : Option (Int32 × mst) :=
    some (vat 7 (s.1 51) x1, s)
theorem sG_Tone_comesTo_15_2 {h0 : Nat → pm_C} {B : Nat} {D : Nat → pd} {hi z N : Nat} (h : FX D hi)   {x1 : Int32} {s : mst} : F_Tone_comesTo_15_2 N  x1 (B + 51) (mkM h0 B D hi z s) = (G_Tone_comesTo_15_2 N  x1 s).map (cvM h0 B D hi z) := by
  simp only [F_Tone_comesTo_15_2, G_Tone_comesTo_15_2, rdm_47_2 h, rdm_47_3 h, vam_50 h, vam_51 h, sG_Tone_comesTo_15 h, Option.bind_some, Option.map_bind, Option.bind_map, Option.map_some, Option.map_none, Option.bind_none, apply_ite (Option.map _), if_true, Function.comp_def, cvM]
  all_goals rfl
def G_Tone_comesTo (N : Nat) (s : mst) (p0 : Int32) (p1 : Int32) : Option (Int32 × mst) :=
    if p1 = 0 then
    G_Tone_comesTo_15 N p0 s
    else
    G_Tone_comesTo_15_2 N p0 s
theorem sg_Tone_comesTo {h0 : Nat → pm_C} {B : Nat} {D : Nat → pd} {hi z N : Nat} (h : FX D hi) {p0 : Int32} {p1 : Int32} {s : mst} : F_Tone_comesTo N (mkM h0 B D hi z s) (B + 47) p0 p1 = (G_Tone_comesTo N s p0 p1).map (cvM h0 B D hi z) := by
  simp only [F_Tone_comesTo, G_Tone_comesTo, rdm_47_2 h, rdm_47_3 h, vam_50 h, vam_51 h, sG_Tone_comesTo_15 h, sG_Tone_comesTo_15_2 h, rcm_47 h, Option.bind_some, Option.map_bind, Option.bind_map, Option.map_some, Option.map_none, Option.bind_none, apply_ite (Option.map _), if_true, Function.comp_def, cvM]
  all_goals rfl
def G_BP_pairOf (N : Nat) (s : mst) (p0 : Int32) : Option (Int32 × mst) :=
    some (p0 &&& 7, s)
theorem sg_BP_pairOf {h0 : Nat → pm_C} {B : Nat} {D : Nat → pd} {hi z N : Nat} (h : FX D hi) {p0 : Int32} {s : mst} : F_BP_pairOf N (mkM h0 B D hi z s)  p0 = (G_BP_pairOf N s p0).map (cvM h0 B D hi z) := by
  simp only [F_BP_pairOf, G_BP_pairOf, Option.bind_some, Option.map_bind, Option.bind_map, Option.map_some, Option.map_none, Option.bind_none, apply_ite (Option.map _), if_true, Function.comp_def, cvM]
  all_goals rfl
def G_Wires_pieceAt_49 (N : Nat)  (x3 : Int32) (s : mst) : Option (Int32 × mst) :=
    some (x3, s)
theorem sG_Wires_pieceAt_49 {h0 : Nat → pm_C} {B : Nat} {D : Nat → pd} {hi z N : Nat} (h : FX D hi)   {x3 : Int32} {s : mst} : F_Wires_pieceAt_49 N  x3 (mkM h0 B D hi z s) = (G_Wires_pieceAt_49 N  x3 s).map (cvM h0 B D hi z) := by
  simp only [F_Wires_pieceAt_49, G_Wires_pieceAt_49, rdm_6_11 h, rdm_6_4 h, rdm_6_5 h, vam_15 h, vam_16 h, Option.bind_some, Option.map_bind, Option.bind_map, Option.map_some, Option.map_none, Option.bind_none, apply_ite (Option.map _), if_true, Function.comp_def, cvM]
  all_goals rfl
def G_Wires_pieceAt_43 (N : Nat) (rec5 : Int32 → Int32 → mst → Option (Int32 × mst)) (x1 : Int32) (x2 : Int32) (x3 : Int32) (x4 : Int32) (s : mst) : Option (Int32 × mst) :=
    rec5 x3 (x4 + 1) s
theorem sG_Wires_pieceAt_43 {h0 : Nat → pm_C} {B : Nat} {D : Nat → pd} {hi z N : Nat} (h : FX D hi) {rec5 : Int32 → Int32 → pm_S → Option (Int32 × pm_S)} {grec5 : Int32 → Int32 → mst → Option (Int32 × mst)} (hrec5 : ∀ (y1 : Int32) (y2 : Int32) (s : mst), rec5 y1 y2 (mkM h0 B D hi z s) = (grec5 y1 y2 s).map (cvM h0 B D hi z)) {x1 : Int32} {x2 : Int32} {x3 : Int32} {x4 : Int32} {s : mst} : F_Wires_pieceAt_43 N rec5 (B + 6) x1 x2 x3 x4 (mkM h0 B D hi z s) = (G_Wires_pieceAt_43 N grec5 x1 x2 x3 x4 s).map (cvM h0 B D hi z) := by
  simp only [F_Wires_pieceAt_43, G_Wires_pieceAt_43, rdm_6_11 h, rdm_6_4 h, rdm_6_5 h, vam_15 h, vam_16 h, sG_Wires_pieceAt_49 h, hrec5, Option.bind_some, Option.map_bind, Option.bind_map, Option.map_some, Option.map_none, Option.bind_none, apply_ite (Option.map _), if_true, Function.comp_def, cvM]
  all_goals rfl
def GB_Wires_pieceAt_5 (N : Nat)  (rec5 : Int32 → Int32 → mst → Option (Int32 × mst)) (x1 : Int32) (x2 : Int32) (x3 : Int32) (x4 : Int32) (s : mst) : Option (Int32 × mst) :=
    if (s.1 6 11) ≤ x4 then
    G_Wires_pieceAt_49 N x3 s
    else
    (if (vat 10 (s.1 15) x4) = x1 then
    (if x2 < (vat 10 (s.1 16) x4) then
    G_Wires_pieceAt_43 N rec5 x1 x2 x3 x4 s
    else
    G_Wires_pieceAt_43 N rec5 x1 x2 (x3 + 1) x4 s)
    else
    G_Wires_pieceAt_43 N rec5 x1 x2 x3 x4 s)
theorem sGB_Wires_pieceAt_5 {h0 : Nat → pm_C} {B : Nat} {D : Nat → pd} {hi z N : Nat} (h : FX D hi) {rec5 : Int32 → Int32 → pm_S → Option (Int32 × pm_S)} {grec5 : Int32 → Int32 → mst → Option (Int32 × mst)} (hrec5 : ∀ (y1 : Int32) (y2 : Int32) (s : mst), rec5 y1 y2 (mkM h0 B D hi z s) = (grec5 y1 y2 s).map (cvM h0 B D hi z)) {x1 : Int32} {x2 : Int32} {x3 : Int32} {x4 : Int32} {s : mst} : B_Wires_pieceAt_5 N rec5 (B + 6) x1 x2 x3 x4 (mkM h0 B D hi z s) = (GB_Wires_pieceAt_5 N grec5 x1 x2 x3 x4 s).map (cvM h0 B D hi z) := by
  simp only [B_Wires_pieceAt_5, GB_Wires_pieceAt_5, rdm_6_11 h, rdm_6_4 h, rdm_6_5 h, vam_15 h, vam_16 h, sG_Wires_pieceAt_49 h, sG_Wires_pieceAt_43 h hrec5, hrec5, Option.bind_some, Option.map_bind, Option.bind_map, Option.map_some, Option.map_none, Option.bind_none, apply_ite (Option.map _), if_true, Function.comp_def, cvM]
  all_goals rfl
def G_Wires_pieceAt_5 (N : Nat)  (x1 : Int32) (x2 : Int32) : Nat → Int32 → Int32 → mst → Option (Int32 × mst)
  | 0 => fun _ _ _ => none
  | n + 1 => fun x3 x4 s => GB_Wires_pieceAt_5 N  (G_Wires_pieceAt_5 N  x1 x2 n) x1 x2 x3 x4 s
theorem sG_Wires_pieceAt_5 {h0 : Nat → pm_C} {B : Nat} {D : Nat → pd} {hi z N : Nat} (h : FX D hi)   {x1 : Int32} {x2 : Int32} : ∀ (n : Nat) (x3 : Int32) (x4 : Int32) (s : mst), F_Wires_pieceAt_5 N  (B + 6) x1 x2 n x3 x4 (mkM h0 B D hi z s) = (G_Wires_pieceAt_5 N  x1 x2 n x3 x4 s).map (cvM h0 B D hi z) := by
  intro n
  induction n with
  | zero => intro x3 x4 s; rfl
  | succ n ih => intro x3 x4 s; exact sGB_Wires_pieceAt_5 h  ih
def G_Wires_pieceAt (N : Nat) (s : mst) (p0 : Int32) (p1 : Int32) : Option (Int32 × mst) :=
    G_Wires_pieceAt_5 N p0 p1 N 0 0 s
theorem sg_Wires_pieceAt {h0 : Nat → pm_C} {B : Nat} {D : Nat → pd} {hi z N : Nat} (h : FX D hi) {p0 : Int32} {p1 : Int32} {s : mst} : F_Wires_pieceAt N (mkM h0 B D hi z s) (B + 6) p0 p1 = (G_Wires_pieceAt N s p0 p1).map (cvM h0 B D hi z) := by
  simp only [F_Wires_pieceAt, G_Wires_pieceAt, rdm_6_11 h, rdm_6_4 h, rdm_6_5 h, vam_15 h, vam_16 h, sG_Wires_pieceAt_49 h, sG_Wires_pieceAt_5 h, rcm_6 h, Option.bind_some, Option.map_bind, Option.bind_map, Option.map_some, Option.map_none, Option.bind_none, apply_ite (Option.map _), if_true, Function.comp_def, cvM]
  all_goals rfl
def G_Wires_nearer_15 (N : Nat)  (t0 : Int32) (s : mst) : Option (Int32 × mst) :=
    some (t0, s)
theorem sG_Wires_nearer_15 {h0 : Nat → pm_C} {B : Nat} {D : Nat → pd} {hi z N : Nat} (h : FX D hi)   {t0 : Int32} {s : mst} : F_Wires_nearer_15 N  t0 (mkM h0 B D hi z s) = (G_Wires_nearer_15 N  t0 s).map (cvM h0 B D hi z) := by
  simp only [F_Wires_nearer_15, G_Wires_nearer_15, Option.bind_some, Option.map_bind, Option.bind_map, Option.map_some, Option.map_none, Option.bind_none, apply_ite (Option.map _), if_true, Function.comp_def, cvM]
  all_goals rfl
def G_Wires_nearer_10 (N : Nat)  (x1 : Int32) (s : mst) : Option (Int32 × mst) :=
    G_Wires_nearer_15 N x1 s
theorem sG_Wires_nearer_10 {h0 : Nat → pm_C} {B : Nat} {D : Nat → pd} {hi z N : Nat} (h : FX D hi)   {x1 : Int32} {s : mst} : F_Wires_nearer_10 N  x1 (mkM h0 B D hi z s) = (G_Wires_nearer_10 N  x1 s).map (cvM h0 B D hi z) := by
  simp only [F_Wires_nearer_10, G_Wires_nearer_10, sG_Wires_nearer_15 h, Option.bind_some, Option.map_bind, Option.bind_map, Option.map_some, Option.map_none, Option.bind_none, apply_ite (Option.map _), if_true, Function.comp_def, cvM]
  all_goals rfl
def G_Wires_nearer (N : Nat) (s : mst) (p0 : Int32) (p1 : Int32) : Option (Int32 × mst) :=
    if p0 = (-1) then
    G_Wires_nearer_10 N p1 s
    else
    (if p0 ≤ p1 then
    G_Wires_nearer_15 N p0 s
    else
    G_Wires_nearer_10 N p1 s)
theorem sg_Wires_nearer {h0 : Nat → pm_C} {B : Nat} {D : Nat → pd} {hi z N : Nat} (h : FX D hi) {p0 : Int32} {p1 : Int32} {s : mst} : F_Wires_nearer N (mkM h0 B D hi z s)  p0 p1 = (G_Wires_nearer N s p0 p1).map (cvM h0 B D hi z) := by
  simp only [F_Wires_nearer, G_Wires_nearer, sG_Wires_nearer_15 h, sG_Wires_nearer_10 h, Option.bind_some, Option.map_bind, Option.bind_map, Option.map_some, Option.map_none, Option.bind_none, apply_ite (Option.map _), if_true, Function.comp_def, cvM]
  all_goals rfl
def G_Wires_toFirstTouch_78 (N : Nat)  (x4 : Int32) (s : mst) : Option (Int32 × mst) :=
    some (x4, s)
theorem sG_Wires_toFirstTouch_78 {h0 : Nat → pm_C} {B : Nat} {D : Nat → pd} {hi z N : Nat} (h : FX D hi)   {x4 : Int32} {s : mst} : F_Wires_toFirstTouch_78 N  x4 (mkM h0 B D hi z s) = (G_Wires_toFirstTouch_78 N  x4 s).map (cvM h0 B D hi z) := by
  simp only [F_Wires_toFirstTouch_78, G_Wires_toFirstTouch_78, rdm_6_12 h, rdm_6_6 h, rdm_6_7 h, rdm_6_8 h, sg_Wires_nearer h, vam_17 h, vam_18 h, vam_19 h, Option.bind_some, Option.map_bind, Option.bind_map, Option.map_some, Option.map_none, Option.bind_none, apply_ite (Option.map _), if_true, Function.comp_def, cvM]
  all_goals rfl
def G_Wires_toFirstTouch_72 (N : Nat) (rec6 : Int32 → Int32 → mst → Option (Int32 × mst)) (x1 : Int32) (x2 : Int32) (x3 : Int32) (x4 : Int32) (x5 : Int32) (s : mst) : Option (Int32 × mst) :=
    rec6 x4 (x5 + 1) s
theorem sG_Wires_toFirstTouch_72 {h0 : Nat → pm_C} {B : Nat} {D : Nat → pd} {hi z N : Nat} (h : FX D hi) {rec6 : Int32 → Int32 → pm_S → Option (Int32 × pm_S)} {grec6 : Int32 → Int32 → mst → Option (Int32 × mst)} (hrec6 : ∀ (y1 : Int32) (y2 : Int32) (s : mst), rec6 y1 y2 (mkM h0 B D hi z s) = (grec6 y1 y2 s).map (cvM h0 B D hi z)) {x1 : Int32} {x2 : Int32} {x3 : Int32} {x4 : Int32} {x5 : Int32} {s : mst} : F_Wires_toFirstTouch_72 N rec6 (B + 6) x1 x2 x3 x4 x5 (mkM h0 B D hi z s) = (G_Wires_toFirstTouch_72 N grec6 x1 x2 x3 x4 x5 s).map (cvM h0 B D hi z) := by
  simp only [F_Wires_toFirstTouch_72, G_Wires_toFirstTouch_72, rdm_6_12 h, rdm_6_6 h, rdm_6_7 h, rdm_6_8 h, sg_Wires_nearer h, vam_17 h, vam_18 h, vam_19 h, sG_Wires_toFirstTouch_78 h, hrec6, Option.bind_some, Option.map_bind, Option.bind_map, Option.map_some, Option.map_none, Option.bind_none, apply_ite (Option.map _), if_true, Function.comp_def, cvM]
  all_goals rfl
def G_Wires_toFirstTouch_67 (N : Nat) (rec6 : Int32 → Int32 → mst → Option (Int32 × mst)) (x1 : Int32) (x2 : Int32) (x3 : Int32) (x5 : Int32) (t0 : Int32) (t1 : Int32) (s : mst) : Option (Int32 × mst) :=
    (G_Wires_nearer N s t1 t0).bind fun r2 =>
    G_Wires_toFirstTouch_72 N rec6 x1 x2 x3 r2.1 x5 r2.2
theorem sG_Wires_toFirstTouch_67 {h0 : Nat → pm_C} {B : Nat} {D : Nat → pd} {hi z N : Nat} (h : FX D hi) {rec6 : Int32 → Int32 → pm_S → Option (Int32 × pm_S)} {grec6 : Int32 → Int32 → mst → Option (Int32 × mst)} (hrec6 : ∀ (y1 : Int32) (y2 : Int32) (s : mst), rec6 y1 y2 (mkM h0 B D hi z s) = (grec6 y1 y2 s).map (cvM h0 B D hi z)) {x1 : Int32} {x2 : Int32} {x3 : Int32} {x5 : Int32} {t0 : Int32} {t1 : Int32} {s : mst} : F_Wires_toFirstTouch_67 N rec6 (B + 6) x1 x2 x3 x5 t0 t1 (mkM h0 B D hi z s) = (G_Wires_toFirstTouch_67 N grec6 x1 x2 x3 x5 t0 t1 s).map (cvM h0 B D hi z) := by
  simp only [F_Wires_toFirstTouch_67, G_Wires_toFirstTouch_67, rdm_6_12 h, rdm_6_6 h, rdm_6_7 h, rdm_6_8 h, sg_Wires_nearer h, vam_17 h, vam_18 h, vam_19 h, sG_Wires_toFirstTouch_78 h, sG_Wires_toFirstTouch_72 h hrec6, hrec6, Option.bind_some, Option.map_bind, Option.bind_map, Option.map_some, Option.map_none, Option.bind_none, apply_ite (Option.map _), if_true, Function.comp_def, cvM]
  all_goals rfl
def G_Wires_toFirstTouch_41 (N : Nat) (rec6 : Int32 → Int32 → mst → Option (Int32 × mst)) (x1 : Int32) (x2 : Int32) (x3 : Int32) (x4 : Int32) (x5 : Int32) (s : mst) : Option (Int32 × mst) :=
    if x2 = 0 then
    G_Wires_toFirstTouch_67 N rec6 x1 x2 x3 x5 (vat 10 (s.1 19) x5) x4 s
    else
    G_Wires_toFirstTouch_67 N rec6 x1 x2 x3 x5 (x3 - (vat 10 (s.1 19) x5)) x4 s
theorem sG_Wires_toFirstTouch_41 {h0 : Nat → pm_C} {B : Nat} {D : Nat → pd} {hi z N : Nat} (h : FX D hi) {rec6 : Int32 → Int32 → pm_S → Option (Int32 × pm_S)} {grec6 : Int32 → Int32 → mst → Option (Int32 × mst)} (hrec6 : ∀ (y1 : Int32) (y2 : Int32) (s : mst), rec6 y1 y2 (mkM h0 B D hi z s) = (grec6 y1 y2 s).map (cvM h0 B D hi z)) {x1 : Int32} {x2 : Int32} {x3 : Int32} {x4 : Int32} {x5 : Int32} {s : mst} : F_Wires_toFirstTouch_41 N rec6 (B + 6) x1 x2 x3 x4 x5 (mkM h0 B D hi z s) = (G_Wires_toFirstTouch_41 N grec6 x1 x2 x3 x4 x5 s).map (cvM h0 B D hi z) := by
  simp only [F_Wires_toFirstTouch_41, G_Wires_toFirstTouch_41, rdm_6_12 h, rdm_6_6 h, rdm_6_7 h, rdm_6_8 h, sg_Wires_nearer h, vam_17 h, vam_18 h, vam_19 h, sG_Wires_toFirstTouch_78 h, sG_Wires_toFirstTouch_72 h hrec6, sG_Wires_toFirstTouch_67 h hrec6, hrec6, Option.bind_some, Option.map_bind, Option.bind_map, Option.map_some, Option.map_none, Option.bind_none, apply_ite (Option.map _), if_true, Function.comp_def, cvM]
  all_goals rfl
def GB_Wires_toFirstTouch_6 (N : Nat)  (rec6 : Int32 → Int32 → mst → Option (Int32 × mst)) (x1 : Int32) (x2 : Int32) (x3 : Int32) (x4 : Int32) (x5 : Int32) (s : mst) : Option (Int32 × mst) :=
    if (s.1 6 12) ≤ x5 then
    G_Wires_toFirstTouch_78 N x4 s
    else
    (if (vat 10 (s.1 17) x5) = x1 then
    G_Wires_toFirstTouch_41 N rec6 x1 x2 x3 x4 x5 s
    else
    (if (vat 10 (s.1 18) x5) = x1 then
    G_Wires_toFirstTouch_41 N rec6 x1 x2 x3 x4 x5 s
    else
    G_Wires_toFirstTouch_72 N rec6 x1 x2 x3 x4 x5 s))
theorem sGB_Wires_toFirstTouch_6 {h0 : Nat → pm_C} {B : Nat} {D : Nat → pd} {hi z N : Nat} (h : FX D hi) {rec6 : Int32 → Int32 → pm_S → Option (Int32 × pm_S)} {grec6 : Int32 → Int32 → mst → Option (Int32 × mst)} (hrec6 : ∀ (y1 : Int32) (y2 : Int32) (s : mst), rec6 y1 y2 (mkM h0 B D hi z s) = (grec6 y1 y2 s).map (cvM h0 B D hi z)) {x1 : Int32} {x2 : Int32} {x3 : Int32} {x4 : Int32} {x5 : Int32} {s : mst} : B_Wires_toFirstTouch_6 N rec6 (B + 6) x1 x2 x3 x4 x5 (mkM h0 B D hi z s) = (GB_Wires_toFirstTouch_6 N grec6 x1 x2 x3 x4 x5 s).map (cvM h0 B D hi z) := by
  simp only [B_Wires_toFirstTouch_6, GB_Wires_toFirstTouch_6, rdm_6_12 h, rdm_6_6 h, rdm_6_7 h, rdm_6_8 h, sg_Wires_nearer h, vam_17 h, vam_18 h, vam_19 h, sG_Wires_toFirstTouch_78 h, sG_Wires_toFirstTouch_72 h hrec6, sG_Wires_toFirstTouch_67 h hrec6, sG_Wires_toFirstTouch_41 h hrec6, hrec6, Option.bind_some, Option.map_bind, Option.bind_map, Option.map_some, Option.map_none, Option.bind_none, apply_ite (Option.map _), if_true, Function.comp_def, cvM]
  all_goals rfl
def G_Wires_toFirstTouch_6 (N : Nat)  (x1 : Int32) (x2 : Int32) (x3 : Int32) : Nat → Int32 → Int32 → mst → Option (Int32 × mst)
  | 0 => fun _ _ _ => none
  | n + 1 => fun x4 x5 s => GB_Wires_toFirstTouch_6 N  (G_Wires_toFirstTouch_6 N  x1 x2 x3 n) x1 x2 x3 x4 x5 s
theorem sG_Wires_toFirstTouch_6 {h0 : Nat → pm_C} {B : Nat} {D : Nat → pd} {hi z N : Nat} (h : FX D hi)   {x1 : Int32} {x2 : Int32} {x3 : Int32} : ∀ (n : Nat) (x4 : Int32) (x5 : Int32) (s : mst), F_Wires_toFirstTouch_6 N  (B + 6) x1 x2 x3 n x4 x5 (mkM h0 B D hi z s) = (G_Wires_toFirstTouch_6 N  x1 x2 x3 n x4 x5 s).map (cvM h0 B D hi z) := by
  intro n
  induction n with
  | zero => intro x4 x5 s; rfl
  | succ n ih => intro x4 x5 s; exact sGB_Wires_toFirstTouch_6 h  ih
def G_Wires_toFirstTouch (N : Nat) (s : mst) (p0 : Int32) (p1 : Int32) (p2 : Int32) : Option (Int32 × mst) :=
    G_Wires_toFirstTouch_6 N p0 p1 p2 N (-1) 0 s
theorem sg_Wires_toFirstTouch {h0 : Nat → pm_C} {B : Nat} {D : Nat → pd} {hi z N : Nat} (h : FX D hi) {p0 : Int32} {p1 : Int32} {p2 : Int32} {s : mst} : F_Wires_toFirstTouch N (mkM h0 B D hi z s) (B + 6) p0 p1 p2 = (G_Wires_toFirstTouch N s p0 p1 p2).map (cvM h0 B D hi z) := by
  simp only [F_Wires_toFirstTouch, G_Wires_toFirstTouch, rdm_6_12 h, rdm_6_6 h, rdm_6_7 h, rdm_6_8 h, sg_Wires_nearer h, vam_17 h, vam_18 h, vam_19 h, sG_Wires_toFirstTouch_78 h, sG_Wires_toFirstTouch_6 h, rcm_6 h, Option.bind_some, Option.map_bind, Option.bind_map, Option.map_some, Option.map_none, Option.bind_none, apply_ite (Option.map _), if_true, Function.comp_def, cvM]
  all_goals rfl
def G_Wires_toFirstBreak_65 (N : Nat)  (x4 : Int32) (s : mst) : Option (Int32 × mst) :=
    some (x4, s)
theorem sG_Wires_toFirstBreak_65 {h0 : Nat → pm_C} {B : Nat} {D : Nat → pd} {hi z N : Nat} (h : FX D hi)   {x4 : Int32} {s : mst} : F_Wires_toFirstBreak_65 N  x4 (mkM h0 B D hi z s) = (G_Wires_toFirstBreak_65 N  x4 s).map (cvM h0 B D hi z) := by
  simp only [F_Wires_toFirstBreak_65, G_Wires_toFirstBreak_65, rdm_6_11 h, rdm_6_4 h, rdm_6_5 h, sg_Wires_nearer h, vam_15 h, vam_16 h, Option.bind_some, Option.map_bind, Option.bind_map, Option.map_some, Option.map_none, Option.bind_none, apply_ite (Option.map _), if_true, Function.comp_def, cvM]
  all_goals rfl
def G_Wires_toFirstBreak_59 (N : Nat) (rec6 : Int32 → Int32 → mst → Option (Int32 × mst)) (x1 : Int32) (x2 : Int32) (x3 : Int32) (x4 : Int32) (x5 : Int32) (s : mst) : Option (Int32 × mst) :=
    rec6 x4 (x5 + 1) s
theorem sG_Wires_toFirstBreak_59 {h0 : Nat → pm_C} {B : Nat} {D : Nat → pd} {hi z N : Nat} (h : FX D hi) {rec6 : Int32 → Int32 → pm_S → Option (Int32 × pm_S)} {grec6 : Int32 → Int32 → mst → Option (Int32 × mst)} (hrec6 : ∀ (y1 : Int32) (y2 : Int32) (s : mst), rec6 y1 y2 (mkM h0 B D hi z s) = (grec6 y1 y2 s).map (cvM h0 B D hi z)) {x1 : Int32} {x2 : Int32} {x3 : Int32} {x4 : Int32} {x5 : Int32} {s : mst} : F_Wires_toFirstBreak_59 N rec6 (B + 6) x1 x2 x3 x4 x5 (mkM h0 B D hi z s) = (G_Wires_toFirstBreak_59 N grec6 x1 x2 x3 x4 x5 s).map (cvM h0 B D hi z) := by
  simp only [F_Wires_toFirstBreak_59, G_Wires_toFirstBreak_59, rdm_6_11 h, rdm_6_4 h, rdm_6_5 h, sg_Wires_nearer h, vam_15 h, vam_16 h, sG_Wires_toFirstBreak_65 h, hrec6, Option.bind_some, Option.map_bind, Option.bind_map, Option.map_some, Option.map_none, Option.bind_none, apply_ite (Option.map _), if_true, Function.comp_def, cvM]
  all_goals rfl
def G_Wires_toFirstBreak_54 (N : Nat) (rec6 : Int32 → Int32 → mst → Option (Int32 × mst)) (x1 : Int32) (x2 : Int32) (x3 : Int32) (x5 : Int32) (t0 : Int32) (t1 : Int32) (s : mst) : Option (Int32 × mst) :=
    (G_Wires_nearer N s t1 t0).bind fun r2 =>
    G_Wires_toFirstBreak_59 N rec6 x1 x2 x3 r2.1 x5 r2.2
theorem sG_Wires_toFirstBreak_54 {h0 : Nat → pm_C} {B : Nat} {D : Nat → pd} {hi z N : Nat} (h : FX D hi) {rec6 : Int32 → Int32 → pm_S → Option (Int32 × pm_S)} {grec6 : Int32 → Int32 → mst → Option (Int32 × mst)} (hrec6 : ∀ (y1 : Int32) (y2 : Int32) (s : mst), rec6 y1 y2 (mkM h0 B D hi z s) = (grec6 y1 y2 s).map (cvM h0 B D hi z)) {x1 : Int32} {x2 : Int32} {x3 : Int32} {x5 : Int32} {t0 : Int32} {t1 : Int32} {s : mst} : F_Wires_toFirstBreak_54 N rec6 (B + 6) x1 x2 x3 x5 t0 t1 (mkM h0 B D hi z s) = (G_Wires_toFirstBreak_54 N grec6 x1 x2 x3 x5 t0 t1 s).map (cvM h0 B D hi z) := by
  simp only [F_Wires_toFirstBreak_54, G_Wires_toFirstBreak_54, rdm_6_11 h, rdm_6_4 h, rdm_6_5 h, sg_Wires_nearer h, vam_15 h, vam_16 h, sG_Wires_toFirstBreak_65 h, sG_Wires_toFirstBreak_59 h hrec6, hrec6, Option.bind_some, Option.map_bind, Option.bind_map, Option.map_some, Option.map_none, Option.bind_none, apply_ite (Option.map _), if_true, Function.comp_def, cvM]
  all_goals rfl
def GB_Wires_toFirstBreak_6 (N : Nat)  (rec6 : Int32 → Int32 → mst → Option (Int32 × mst)) (x1 : Int32) (x2 : Int32) (x3 : Int32) (x4 : Int32) (x5 : Int32) (s : mst) : Option (Int32 × mst) :=
    if (s.1 6 11) ≤ x5 then
    G_Wires_toFirstBreak_65 N x4 s
    else
    (if (vat 10 (s.1 15) x5) = x1 then
    (if x2 = 0 then
    G_Wires_toFirstBreak_54 N rec6 x1 x2 x3 x5 (vat 10 (s.1 16) x5) x4 s
    else
    G_Wires_toFirstBreak_54 N rec6 x1 x2 x3 x5 (x3 - (vat 10 (s.1 16) x5)) x4 s)
    else
    G_Wires_toFirstBreak_59 N rec6 x1 x2 x3 x4 x5 s)
theorem sGB_Wires_toFirstBreak_6 {h0 : Nat → pm_C} {B : Nat} {D : Nat → pd} {hi z N : Nat} (h : FX D hi) {rec6 : Int32 → Int32 → pm_S → Option (Int32 × pm_S)} {grec6 : Int32 → Int32 → mst → Option (Int32 × mst)} (hrec6 : ∀ (y1 : Int32) (y2 : Int32) (s : mst), rec6 y1 y2 (mkM h0 B D hi z s) = (grec6 y1 y2 s).map (cvM h0 B D hi z)) {x1 : Int32} {x2 : Int32} {x3 : Int32} {x4 : Int32} {x5 : Int32} {s : mst} : B_Wires_toFirstBreak_6 N rec6 (B + 6) x1 x2 x3 x4 x5 (mkM h0 B D hi z s) = (GB_Wires_toFirstBreak_6 N grec6 x1 x2 x3 x4 x5 s).map (cvM h0 B D hi z) := by
  simp only [B_Wires_toFirstBreak_6, GB_Wires_toFirstBreak_6, rdm_6_11 h, rdm_6_4 h, rdm_6_5 h, sg_Wires_nearer h, vam_15 h, vam_16 h, sG_Wires_toFirstBreak_65 h, sG_Wires_toFirstBreak_59 h hrec6, sG_Wires_toFirstBreak_54 h hrec6, hrec6, Option.bind_some, Option.map_bind, Option.bind_map, Option.map_some, Option.map_none, Option.bind_none, apply_ite (Option.map _), if_true, Function.comp_def, cvM]
  all_goals rfl
def G_Wires_toFirstBreak_6 (N : Nat)  (x1 : Int32) (x2 : Int32) (x3 : Int32) : Nat → Int32 → Int32 → mst → Option (Int32 × mst)
  | 0 => fun _ _ _ => none
  | n + 1 => fun x4 x5 s => GB_Wires_toFirstBreak_6 N  (G_Wires_toFirstBreak_6 N  x1 x2 x3 n) x1 x2 x3 x4 x5 s
theorem sG_Wires_toFirstBreak_6 {h0 : Nat → pm_C} {B : Nat} {D : Nat → pd} {hi z N : Nat} (h : FX D hi)   {x1 : Int32} {x2 : Int32} {x3 : Int32} : ∀ (n : Nat) (x4 : Int32) (x5 : Int32) (s : mst), F_Wires_toFirstBreak_6 N  (B + 6) x1 x2 x3 n x4 x5 (mkM h0 B D hi z s) = (G_Wires_toFirstBreak_6 N  x1 x2 x3 n x4 x5 s).map (cvM h0 B D hi z) := by
  intro n
  induction n with
  | zero => intro x4 x5 s; rfl
  | succ n ih => intro x4 x5 s; exact sGB_Wires_toFirstBreak_6 h  ih
def G_Wires_toFirstBreak (N : Nat) (s : mst) (p0 : Int32) (p1 : Int32) (p2 : Int32) : Option (Int32 × mst) :=
    G_Wires_toFirstBreak_6 N p0 p1 p2 N (-1) 0 s
theorem sg_Wires_toFirstBreak {h0 : Nat → pm_C} {B : Nat} {D : Nat → pd} {hi z N : Nat} (h : FX D hi) {p0 : Int32} {p1 : Int32} {p2 : Int32} {s : mst} : F_Wires_toFirstBreak N (mkM h0 B D hi z s) (B + 6) p0 p1 p2 = (G_Wires_toFirstBreak N s p0 p1 p2).map (cvM h0 B D hi z) := by
  simp only [F_Wires_toFirstBreak, G_Wires_toFirstBreak, rdm_6_11 h, rdm_6_4 h, rdm_6_5 h, sg_Wires_nearer h, vam_15 h, vam_16 h, sG_Wires_toFirstBreak_65 h, sG_Wires_toFirstBreak_6 h, rcm_6 h, Option.bind_some, Option.map_bind, Option.bind_map, Option.map_some, Option.map_none, Option.bind_none, apply_ite (Option.map _), if_true, Function.comp_def, cvM]
  all_goals rfl
def G_Tone_comesToHome_29 (N : Nat)  (t0 : Int32) (s : mst) : Option (Int32 × mst) :=
    if t0 = 0 ∨ t0 = 1 then some (t0, s) else none
theorem sG_Tone_comesToHome_29 {h0 : Nat → pm_C} {B : Nat} {D : Nat → pd} {hi z N : Nat} (h : FX D hi)   {t0 : Int32} {s : mst} : F_Tone_comesToHome_29 N  t0 (mkM h0 B D hi z s) = (G_Tone_comesToHome_29 N  t0 s).map (cvM h0 B D hi z) := by
  simp only [F_Tone_comesToHome_29, G_Tone_comesToHome_29, sg_BP_cableOf h, sg_BP_pairOf h, sg_Tone_comesTo h, Option.bind_some, Option.map_bind, Option.bind_map, Option.map_some, Option.map_none, Option.bind_none, apply_ite (Option.map _), if_true, Function.comp_def, cvM]
  all_goals rfl
def G_Tone_comesToHome_28 (N : Nat)   (s : mst) : Option (Int32 × mst) :=
    G_Tone_comesToHome_29 N 0 s
theorem sG_Tone_comesToHome_28 {h0 : Nat → pm_C} {B : Nat} {D : Nat → pd} {hi z N : Nat} (h : FX D hi)    {s : mst} : F_Tone_comesToHome_28 N   (mkM h0 B D hi z s) = (G_Tone_comesToHome_28 N   s).map (cvM h0 B D hi z) := by
  simp only [F_Tone_comesToHome_28, G_Tone_comesToHome_28, sg_BP_cableOf h, sg_BP_pairOf h, sg_Tone_comesTo h, sG_Tone_comesToHome_29 h, Option.bind_some, Option.map_bind, Option.bind_map, Option.map_some, Option.map_none, Option.bind_none, apply_ite (Option.map _), if_true, Function.comp_def, cvM]
  all_goals rfl
def G_Tone_comesToHome (N : Nat) (s : mst) (p0 : Int32) : Option (Int32 × mst) :=
    if p0 = (-1) then
    G_Tone_comesToHome_28 N s
    else
    ((G_BP_cableOf N s p0).bind fun r2 =>
    (G_Tone_comesTo N r2.2 r2.1 1).bind fun r4 =>
    (G_BP_pairOf N r4.2 p0).bind fun r6 =>
    if ((r4.1 >>> (r6.1 &&& 31)) &&& 1) = 0 then
    G_Tone_comesToHome_28 N r6.2
    else
    G_Tone_comesToHome_29 N 1 r6.2)
theorem sg_Tone_comesToHome {h0 : Nat → pm_C} {B : Nat} {D : Nat → pd} {hi z N : Nat} (h : FX D hi) {p0 : Int32} {s : mst} : F_Tone_comesToHome N (mkM h0 B D hi z s) (B + 47) p0 = (G_Tone_comesToHome N s p0).map (cvM h0 B D hi z) := by
  simp only [F_Tone_comesToHome, G_Tone_comesToHome, sg_BP_cableOf h, sg_BP_pairOf h, sg_Tone_comesTo h, sG_Tone_comesToHome_29 h, sG_Tone_comesToHome_28 h, rcm_47 h, Option.bind_some, Option.map_bind, Option.bind_map, Option.map_some, Option.map_none, Option.bind_none, apply_ite (Option.map _), if_true, Function.comp_def, cvM]
  all_goals rfl
def G_Sheet_columnOf_12 (N : Nat)  (t0 : Int32) (t1 : Int32) (s : mst) : Option (Int32 × mst) :=
    some (t1 + t0, s)
theorem sG_Sheet_columnOf_12 {h0 : Nat → pm_C} {B : Nat} {D : Nat → pd} {hi z N : Nat} (h : FX D hi)   {t0 : Int32} {t1 : Int32} {s : mst} : F_Sheet_columnOf_12 N  t0 t1 (mkM h0 B D hi z s) = (G_Sheet_columnOf_12 N  t0 t1 s).map (cvM h0 B D hi z) := by
  simp only [F_Sheet_columnOf_12, G_Sheet_columnOf_12, Option.bind_some, Option.map_bind, Option.bind_map, Option.map_some, Option.map_none, Option.bind_none, apply_ite (Option.map _), if_true, Function.comp_def, cvM]
  all_goals rfl
def G_Sheet_columnOf (N : Nat) (s : mst) (p0 : Int32) (p1 : Int32) : Option (Int32 × mst) :=
    if p1 = 0 then
    G_Sheet_columnOf_12 N 0 (2 * p0) s
    else
    G_Sheet_columnOf_12 N 1 (2 * p0) s
theorem sg_Sheet_columnOf {h0 : Nat → pm_C} {B : Nat} {D : Nat → pd} {hi z N : Nat} (h : FX D hi) {p0 : Int32} {p1 : Int32} {s : mst} : F_Sheet_columnOf N (mkM h0 B D hi z s)  p0 p1 = (G_Sheet_columnOf N s p0 p1).map (cvM h0 B D hi z) := by
  simp only [F_Sheet_columnOf, G_Sheet_columnOf, sG_Sheet_columnOf_12 h, Option.bind_some, Option.map_bind, Option.bind_map, Option.map_some, Option.map_none, Option.bind_none, apply_ite (Option.map _), if_true, Function.comp_def, cvM]
  all_goals rfl
def G_Mover_freePairs_41 (N : Nat)  (x1 : Int32) (s : mst) : Option (Int32 × mst) :=
    some (x1, s)
theorem sG_Mover_freePairs_41 {h0 : Nat → pm_C} {B : Nat} {D : Nat → pd} {hi z N : Nat} (h : FX D hi)   {x1 : Int32} {s : mst} : F_Mover_freePairs_41 N  x1 (mkM h0 B D hi z s) = (G_Mover_freePairs_41 N  x1 s).map (cvM h0 B D hi z) := by
  simp only [F_Mover_freePairs_41, G_Mover_freePairs_41, rdm_54_0 h, rdm_54_3 h, vam_55 h, Option.bind_some, Option.map_bind, Option.bind_map, Option.map_some, Option.map_none, Option.bind_none, apply_ite (Option.map _), if_true, Function.comp_def, cvM]
  all_goals rfl
def G_Mover_freePairs_35 (N : Nat) (rec7 : Int32 → Int32 → mst → Option (Int32 × mst)) (x1 : Int32) (x2 : Int32) (s : mst) : Option (Int32 × mst) :=
    rec7 x1 (x2 + 1) s
theorem sG_Mover_freePairs_35 {h0 : Nat → pm_C} {B : Nat} {D : Nat → pd} {hi z N : Nat} (h : FX D hi) {rec7 : Int32 → Int32 → pm_S → Option (Int32 × pm_S)} {grec7 : Int32 → Int32 → mst → Option (Int32 × mst)} (hrec7 : ∀ (y1 : Int32) (y2 : Int32) (s : mst), rec7 y1 y2 (mkM h0 B D hi z s) = (grec7 y1 y2 s).map (cvM h0 B D hi z)) {x1 : Int32} {x2 : Int32} {s : mst} : F_Mover_freePairs_35 N rec7 (B + 54) x1 x2 (mkM h0 B D hi z s) = (G_Mover_freePairs_35 N grec7 x1 x2 s).map (cvM h0 B D hi z) := by
  simp only [F_Mover_freePairs_35, G_Mover_freePairs_35, rdm_54_0 h, rdm_54_3 h, vam_55 h, sG_Mover_freePairs_41 h, hrec7, Option.bind_some, Option.map_bind, Option.bind_map, Option.map_some, Option.map_none, Option.bind_none, apply_ite (Option.map _), if_true, Function.comp_def, cvM]
  all_goals rfl
def GB_Mover_freePairs_7 (N : Nat)  (rec7 : Int32 → Int32 → mst → Option (Int32 × mst))  (x1 : Int32) (x2 : Int32) (s : mst) : Option (Int32 × mst) :=
    if 10 ≤ x2 then
    G_Mover_freePairs_41 N x1 s
    else
    (if (vat 10 (s.1 55) x2) = (-1) then
    G_Mover_freePairs_35 N rec7 x1 x2 s
    else
    G_Mover_freePairs_35 N rec7 (x1 &&& ((1 <<< ((vat 10 (s.1 55) x2) &&& 31)) ^^^ (-1))) x2 s)
theorem sGB_Mover_freePairs_7 {h0 : Nat → pm_C} {B : Nat} {D : Nat → pd} {hi z N : Nat} (h : FX D hi) {rec7 : Int32 → Int32 → pm_S → Option (Int32 × pm_S)} {grec7 : Int32 → Int32 → mst → Option (Int32 × mst)} (hrec7 : ∀ (y1 : Int32) (y2 : Int32) (s : mst), rec7 y1 y2 (mkM h0 B D hi z s) = (grec7 y1 y2 s).map (cvM h0 B D hi z)) {x1 : Int32} {x2 : Int32} {s : mst} : B_Mover_freePairs_7 N rec7 (B + 54) x1 x2 (mkM h0 B D hi z s) = (GB_Mover_freePairs_7 N grec7 x1 x2 s).map (cvM h0 B D hi z) := by
  simp only [B_Mover_freePairs_7, GB_Mover_freePairs_7, rdm_54_0 h, rdm_54_3 h, vam_55 h, sG_Mover_freePairs_41 h, sG_Mover_freePairs_35 h hrec7, hrec7, Option.bind_some, Option.map_bind, Option.bind_map, Option.map_some, Option.map_none, Option.bind_none, apply_ite (Option.map _), if_true, Function.comp_def, cvM]
  all_goals rfl
def G_Mover_freePairs_7 (N : Nat)   : Nat → Int32 → Int32 → mst → Option (Int32 × mst)
  | 0 => fun _ _ _ => none
  | n + 1 => fun x1 x2 s => GB_Mover_freePairs_7 N  (G_Mover_freePairs_7 N   n)  x1 x2 s
theorem sG_Mover_freePairs_7 {h0 : Nat → pm_C} {B : Nat} {D : Nat → pd} {hi z N : Nat} (h : FX D hi)    : ∀ (n : Nat) (x1 : Int32) (x2 : Int32) (s : mst), F_Mover_freePairs_7 N  (B + 54) n x1 x2 (mkM h0 B D hi z s) = (G_Mover_freePairs_7 N   n x1 x2 s).map (cvM h0 B D hi z) := by
  intro n
  induction n with
  | zero => intro x1 x2 s; rfl
  | succ n ih => intro x1 x2 s; exact sGB_Mover_freePairs_7 h  ih
def G_Mover_freePairs (N : Nat) (s : mst)  : Option (Int32 × mst) :=
    G_Mover_freePairs_7 N  N (s.1 54 3) 0 s
theorem sg_Mover_freePairs {h0 : Nat → pm_C} {B : Nat} {D : Nat → pd} {hi z N : Nat} (h : FX D hi)  {s : mst} : F_Mover_freePairs N (mkM h0 B D hi z s) (B + 54)  = (G_Mover_freePairs N s ).map (cvM h0 B D hi z) := by
  simp only [F_Mover_freePairs, G_Mover_freePairs, rdm_54_0 h, rdm_54_3 h, vam_55 h, sG_Mover_freePairs_41 h, sG_Mover_freePairs_7 h, rcm_54 h, Option.bind_some, Option.map_bind, Option.bind_map, Option.map_some, Option.map_none, Option.bind_none, apply_ite (Option.map _), if_true, Function.comp_def, cvM]
  all_goals rfl
def G_Mover_isAstray_38 (N : Nat)  (t0 : Int32) (s : mst) : Option (Int32 × mst) :=
    if t0 = 0 ∨ t0 = 1 then some (t0, s) else none
theorem sG_Mover_isAstray_38 {h0 : Nat → pm_C} {B : Nat} {D : Nat → pd} {hi z N : Nat} (h : FX D hi)   {t0 : Int32} {s : mst} : F_Mover_isAstray_38 N  t0 (mkM h0 B D hi z s) = (G_Mover_isAstray_38 N  t0 s).map (cvM h0 B D hi z) := by
  simp only [F_Mover_isAstray_38, G_Mover_isAstray_38, rdm_54_0 h, rdm_54_1 h, vam_55 h, vam_56 h, Option.bind_some, Option.map_bind, Option.bind_map, Option.map_some, Option.map_none, Option.bind_none, apply_ite (Option.map _), if_true, Function.comp_def, cvM]
  all_goals rfl
def G_Mover_isAstray_37 (N : Nat)   (s : mst) : Option (Int32 × mst) :=
    G_Mover_isAstray_38 N 0 s
theorem sG_Mover_isAstray_37 {h0 : Nat → pm_C} {B : Nat} {D : Nat → pd} {hi z N : Nat} (h : FX D hi)    {s : mst} : F_Mover_isAstray_37 N   (mkM h0 B D hi z s) = (G_Mover_isAstray_37 N   s).map (cvM h0 B D hi z) := by
  simp only [F_Mover_isAstray_37, G_Mover_isAstray_37, rdm_54_0 h, rdm_54_1 h, vam_55 h, vam_56 h, sG_Mover_isAstray_38 h, Option.bind_some, Option.map_bind, Option.bind_map, Option.map_some, Option.map_none, Option.bind_none, apply_ite (Option.map _), if_true, Function.comp_def, cvM]
  all_goals rfl
def G_Mover_isAstray (N : Nat) (s : mst) (p0 : Int32) : Option (Int32 × mst) :=
    if (vat 10 (s.1 55) p0) = (-1) then
    G_Mover_isAstray_37 N s
    else
    (if (vat 10 (s.1 56) p0) = (-1) then
    G_Mover_isAstray_37 N s
    else
    (if (vat 10 (s.1 55) p0) = (vat 10 (s.1 56) p0) then
    G_Mover_isAstray_37 N s
    else
    G_Mover_isAstray_38 N 1 s))
theorem sg_Mover_isAstray {h0 : Nat → pm_C} {B : Nat} {D : Nat → pd} {hi z N : Nat} (h : FX D hi) {p0 : Int32} {s : mst} : F_Mover_isAstray N (mkM h0 B D hi z s) (B + 54) p0 = (G_Mover_isAstray N s p0).map (cvM h0 B D hi z) := by
  simp only [F_Mover_isAstray, G_Mover_isAstray, rdm_54_0 h, rdm_54_1 h, vam_55 h, vam_56 h, sG_Mover_isAstray_38 h, sG_Mover_isAstray_37 h, rcm_54 h, Option.bind_some, Option.map_bind, Option.bind_map, Option.map_some, Option.map_none, Option.bind_none, apply_ite (Option.map _), if_true, Function.comp_def, cvM]
  all_goals rfl
def G_Mover_move_39 (N : Nat)  (x1 : Int32) (x2 : Int32) (s : mst) : Option mst :=
    some (vsI s 55 10 x1 x2)
theorem sG_Mover_move_39 {h0 : Nat → pm_C} {B : Nat} {D : Nat → pd} {hi z N : Nat} (h : FX D hi)   {x1 : Int32} {x2 : Int32} {s : mst} : F_Mover_move_39 N  (B + 54) x1 x2 (mkM h0 B D hi z s) = (G_Mover_move_39 N  x1 x2 s).map (mkM h0 B D hi z) := by
  simp only [F_Mover_move_39, G_Mover_move_39, anm_57 h, rdm_54_0 h, rdm_54_2 h, rdm_54_5 h, vsm_55 h, vsm_57 h, wrm_54_5 h, Option.bind_some, Option.map_bind, Option.bind_map, Option.map_some, Option.map_none, Option.bind_none, apply_ite (Option.map _), if_true, Function.comp_def, cvM]
  all_goals rfl
def G_Mover_move (N : Nat) (s : mst) (p0 : Int32) (p1 : Int32) : Option mst :=
    if 20 ≤ (s.1 54 5) then
    G_Mover_move_39 N p0 p1 s
    else
    G_Mover_move_39 N p0 p1 (wrI (vsI s 57 20 (s.1 54 5) ((8 * p0) + p1)) 54 5 (((vsI s 57 20 (s.1 54 5) ((8 * p0) + p1)).1 54 5) + 1))
theorem sg_Mover_move {h0 : Nat → pm_C} {B : Nat} {D : Nat → pd} {hi z N : Nat} (h : FX D hi) {p0 : Int32} {p1 : Int32} {s : mst} : F_Mover_move N (mkM h0 B D hi z s) (B + 54) p0 p1 = (G_Mover_move N s p0 p1).map (mkM h0 B D hi z) := by
  simp only [F_Mover_move, G_Mover_move, anm_57 h, rdm_54_0 h, rdm_54_2 h, rdm_54_5 h, vsm_55 h, vsm_57 h, wrm_54_5 h, sG_Mover_move_39 h, rcm_54 h, Option.bind_some, Option.map_bind, Option.bind_map, Option.map_some, Option.map_none, Option.bind_none, apply_ite (Option.map _), if_true, Function.comp_def, cvM]
  all_goals rfl
def G_Mover_moveHome_52 (N : Nat)   (s : mst) : Option (Int32 × mst) :=
    some (0, s)
theorem sG_Mover_moveHome_52 {h0 : Nat → pm_C} {B : Nat} {D : Nat → pd} {hi z N : Nat} (h : FX D hi)    {s : mst} : F_Mover_moveHome_52 N   (mkM h0 B D hi z s) = (G_Mover_moveHome_52 N   s).map (cvM h0 B D hi z) := by
  simp only [F_Mover_moveHome_52, G_Mover_moveHome_52, rdm_54_1 h, sg_Mover_freePairs h, sg_Mover_isAstray h, sg_Mover_move h, vam_56 h, Option.bind_some, Option.map_bind, Option.bind_map, Option.map_some, Option.map_none, Option.bind_none, apply_ite (Option.map _), if_true, Function.comp_def, cvM]
  all_goals rfl
def G_Mover_moveHome_46 (N : Nat) (rec7 : Int32 → mst → Option (Int32 × mst)) (x1 : Int32) (x2 : Int32) (s : mst) : Option (Int32 × mst) :=
    rec7 (x2 + 1) s
theorem sG_Mover_moveHome_46 {h0 : Nat → pm_C} {B : Nat} {D : Nat → pd} {hi z N : Nat} (h : FX D hi) {rec7 : Int32 → pm_S → Option (Int32 × pm_S)} {grec7 : Int32 → mst → Option (Int32 × mst)} (hrec7 : ∀ (y1 : Int32) (s : mst), rec7 y1 (mkM h0 B D hi z s) = (grec7 y1 s).map (cvM h0 B D hi z)) {x1 : Int32} {x2 : Int32} {s : mst} : F_Mover_moveHome_46 N rec7 (B + 54) x1 x2 (mkM h0 B D hi z s) = (G_Mover_moveHome_46 N grec7 x1 x2 s).map (cvM h0 B D hi z) := by
  simp only [F_Mover_moveHome_46, G_Mover_moveHome_46, rdm_54_1 h, sg_Mover_freePairs h, sg_Mover_isAstray h, sg_Mover_move h, vam_56 h, sG_Mover_moveHome_52 h, hrec7, Option.bind_some, Option.map_bind, Option.bind_map, Option.map_some, Option.map_none, Option.bind_none, apply_ite (Option.map _), if_true, Function.comp_def, cvM]
  all_goals rfl
def G_Mover_moveHome_38 (N : Nat)  (x2 : Int32) (x3 : Int32) (s : mst) : Option (Int32 × mst) :=
    (G_Mover_move N s x2 x3).bind fun s5 =>
    some (1, s5)
theorem sG_Mover_moveHome_38 {h0 : Nat → pm_C} {B : Nat} {D : Nat → pd} {hi z N : Nat} (h : FX D hi)   {x2 : Int32} {x3 : Int32} {s : mst} : F_Mover_moveHome_38 N  (B + 54) x2 x3 (mkM h0 B D hi z s) = (G_Mover_moveHome_38 N  x2 x3 s).map (cvM h0 B D hi z) := by
  simp only [F_Mover_moveHome_38, G_Mover_moveHome_38, rdm_54_1 h, sg_Mover_freePairs h, sg_Mover_isAstray h, sg_Mover_move h, vam_56 h, sG_Mover_moveHome_52 h, Option.bind_some, Option.map_bind, Option.bind_map, Option.map_some, Option.map_none, Option.bind_none, apply_ite (Option.map _), if_true, Function.comp_def, cvM]
  all_goals rfl
def GB_Mover_moveHome_7 (N : Nat)  (rec7 : Int32 → mst → Option (Int32 × mst)) (x1 : Int32) (x2 : Int32) (s : mst) : Option (Int32 × mst) :=
    if 10 ≤ x2 then
    G_Mover_moveHome_52 N s
    else
    ((G_Mover_isAstray N s x2).bind fun r4 =>
    if r4.1 = 0 then
    G_Mover_moveHome_46 N rec7 x1 x2 r4.2
    else
    (if ((x1 >>> ((vat 10 (s.1 56) x2) &&& 31)) &&& 1) = 0 then
    G_Mover_moveHome_46 N rec7 x1 x2 r4.2
    else
    G_Mover_moveHome_38 N x2 (vat 10 (s.1 56) x2) r4.2))
theorem sGB_Mover_moveHome_7 {h0 : Nat → pm_C} {B : Nat} {D : Nat → pd} {hi z N : Nat} (h : FX D hi) {rec7 : Int32 → pm_S → Option (Int32 × pm_S)} {grec7 : Int32 → mst → Option (Int32 × mst)} (hrec7 : ∀ (y1 : Int32) (s : mst), rec7 y1 (mkM h0 B D hi z s) = (grec7 y1 s).map (cvM h0 B D hi z)) {x1 : Int32} {x2 : Int32} {s : mst} : B_Mover_moveHome_7 N rec7 (B + 54) x1 x2 (mkM h0 B D hi z s) = (GB_Mover_moveHome_7 N grec7 x1 x2 s).map (cvM h0 B D hi z) := by
  simp only [B_Mover_moveHome_7, GB_Mover_moveHome_7, rdm_54_1 h, sg_Mover_freePairs h, sg_Mover_isAstray h, sg_Mover_move h, vam_56 h, sG_Mover_moveHome_52 h, sG_Mover_moveHome_46 h hrec7, sG_Mover_moveHome_38 h, hrec7, Option.bind_some, Option.map_bind, Option.bind_map, Option.map_some, Option.map_none, Option.bind_none, apply_ite (Option.map _), if_true, Function.comp_def, cvM]
  all_goals rfl
def G_Mover_moveHome_7 (N : Nat)  (x1 : Int32) : Nat → Int32 → mst → Option (Int32 × mst)
  | 0 => fun _ _ => none
  | n + 1 => fun x2 s => GB_Mover_moveHome_7 N  (G_Mover_moveHome_7 N  x1 n) x1 x2 s
theorem sG_Mover_moveHome_7 {h0 : Nat → pm_C} {B : Nat} {D : Nat → pd} {hi z N : Nat} (h : FX D hi)   {x1 : Int32} : ∀ (n : Nat) (x2 : Int32) (s : mst), F_Mover_moveHome_7 N  (B + 54) x1 n x2 (mkM h0 B D hi z s) = (G_Mover_moveHome_7 N  x1 n x2 s).map (cvM h0 B D hi z) := by
  intro n
  induction n with
  | zero => intro x2 s; rfl
  | succ n ih => intro x2 s; exact sGB_Mover_moveHome_7 h  ih
def G_Mover_moveHome (N : Nat) (s : mst)  : Option (Int32 × mst) :=
    (G_Mover_freePairs N s ).bind fun r2 =>
    G_Mover_moveHome_7 N r2.1 N 0 r2.2
theorem sg_Mover_moveHome {h0 : Nat → pm_C} {B : Nat} {D : Nat → pd} {hi z N : Nat} (h : FX D hi)  {s : mst} : F_Mover_moveHome N (mkM h0 B D hi z s) (B + 54)  = (G_Mover_moveHome N s ).map (cvM h0 B D hi z) := by
  simp only [F_Mover_moveHome, G_Mover_moveHome, rdm_54_1 h, sg_Mover_freePairs h, sg_Mover_isAstray h, sg_Mover_move h, vam_56 h, sG_Mover_moveHome_52 h, sG_Mover_moveHome_38 h, sG_Mover_moveHome_7 h, rcm_54 h, Option.bind_some, Option.map_bind, Option.bind_map, Option.map_some, Option.map_none, Option.bind_none, apply_ite (Option.map _), if_true, Function.comp_def, cvM]
  all_goals rfl
def G_Mover_houseOn_33 (N : Nat)   (s : mst) : Option (Int32 × mst) :=
    some ((-1), s)
theorem sG_Mover_houseOn_33 {h0 : Nat → pm_C} {B : Nat} {D : Nat → pd} {hi z N : Nat} (h : FX D hi)    {s : mst} : F_Mover_houseOn_33 N   (mkM h0 B D hi z s) = (G_Mover_houseOn_33 N   s).map (cvM h0 B D hi z) := by
  simp only [F_Mover_houseOn_33, G_Mover_houseOn_33, rdm_54_0 h, vam_55 h, Option.bind_some, Option.map_bind, Option.bind_map, Option.map_some, Option.map_none, Option.bind_none, apply_ite (Option.map _), if_true, Function.comp_def, cvM]
  all_goals rfl
def G_Mover_houseOn_27 (N : Nat) (rec2 : Int32 → mst → Option (Int32 × mst)) (x1 : Int32) (x2 : Int32) (s : mst) : Option (Int32 × mst) :=
    rec2 (x2 + 1) s
theorem sG_Mover_houseOn_27 {h0 : Nat → pm_C} {B : Nat} {D : Nat → pd} {hi z N : Nat} (h : FX D hi) {rec2 : Int32 → pm_S → Option (Int32 × pm_S)} {grec2 : Int32 → mst → Option (Int32 × mst)} (hrec2 : ∀ (y1 : Int32) (s : mst), rec2 y1 (mkM h0 B D hi z s) = (grec2 y1 s).map (cvM h0 B D hi z)) {x1 : Int32} {x2 : Int32} {s : mst} : F_Mover_houseOn_27 N rec2 (B + 54) x1 x2 (mkM h0 B D hi z s) = (G_Mover_houseOn_27 N grec2 x1 x2 s).map (cvM h0 B D hi z) := by
  simp only [F_Mover_houseOn_27, G_Mover_houseOn_27, rdm_54_0 h, vam_55 h, sG_Mover_houseOn_33 h, hrec2, Option.bind_some, Option.map_bind, Option.bind_map, Option.map_some, Option.map_none, Option.bind_none, apply_ite (Option.map _), if_true, Function.comp_def, cvM]
  all_goals rfl
def G_Mover_houseOn_25 (N : Nat)  (x2 : Int32) (s : mst) : Option (Int32 × mst) :=
    some (x2, s)
theorem sG_Mover_houseOn_25 {h0 : Nat → pm_C} {B : Nat} {D : Nat → pd} {hi z N : Nat} (h : FX D hi)   {x2 : Int32} {s : mst} : F_Mover_houseOn_25 N  x2 (mkM h0 B D hi z s) = (G_Mover_houseOn_25 N  x2 s).map (cvM h0 B D hi z) := by
  simp only [F_Mover_houseOn_25, G_Mover_houseOn_25, rdm_54_0 h, vam_55 h, sG_Mover_houseOn_33 h, Option.bind_some, Option.map_bind, Option.bind_map, Option.map_some, Option.map_none, Option.bind_none, apply_ite (Option.map _), if_true, Function.comp_def, cvM]
  all_goals rfl
def GB_Mover_houseOn_2 (N : Nat)  (rec2 : Int32 → mst → Option (Int32 × mst)) (x1 : Int32) (x2 : Int32) (s : mst) : Option (Int32 × mst) :=
    if 10 ≤ x2 then
    G_Mover_houseOn_33 N s
    else
    (if x1 = (-1) then
    G_Mover_houseOn_27 N rec2 x1 x2 s
    else
    (if (vat 10 (s.1 55) x2) = x1 then
    G_Mover_houseOn_25 N x2 s
    else
    G_Mover_houseOn_27 N rec2 x1 x2 s))
theorem sGB_Mover_houseOn_2 {h0 : Nat → pm_C} {B : Nat} {D : Nat → pd} {hi z N : Nat} (h : FX D hi) {rec2 : Int32 → pm_S → Option (Int32 × pm_S)} {grec2 : Int32 → mst → Option (Int32 × mst)} (hrec2 : ∀ (y1 : Int32) (s : mst), rec2 y1 (mkM h0 B D hi z s) = (grec2 y1 s).map (cvM h0 B D hi z)) {x1 : Int32} {x2 : Int32} {s : mst} : B_Mover_houseOn_2 N rec2 (B + 54) x1 x2 (mkM h0 B D hi z s) = (GB_Mover_houseOn_2 N grec2 x1 x2 s).map (cvM h0 B D hi z) := by
  simp only [B_Mover_houseOn_2, GB_Mover_houseOn_2, rdm_54_0 h, vam_55 h, sG_Mover_houseOn_33 h, sG_Mover_houseOn_27 h hrec2, sG_Mover_houseOn_25 h, hrec2, Option.bind_some, Option.map_bind, Option.bind_map, Option.map_some, Option.map_none, Option.bind_none, apply_ite (Option.map _), if_true, Function.comp_def, cvM]
  all_goals rfl
def G_Mover_houseOn_2 (N : Nat)  (x1 : Int32) : Nat → Int32 → mst → Option (Int32 × mst)
  | 0 => fun _ _ => none
  | n + 1 => fun x2 s => GB_Mover_houseOn_2 N  (G_Mover_houseOn_2 N  x1 n) x1 x2 s
theorem sG_Mover_houseOn_2 {h0 : Nat → pm_C} {B : Nat} {D : Nat → pd} {hi z N : Nat} (h : FX D hi)   {x1 : Int32} : ∀ (n : Nat) (x2 : Int32) (s : mst), F_Mover_houseOn_2 N  (B + 54) x1 n x2 (mkM h0 B D hi z s) = (G_Mover_houseOn_2 N  x1 n x2 s).map (cvM h0 B D hi z) := by
  intro n
  induction n with
  | zero => intro x2 s; rfl
  | succ n ih => intro x2 s; exact sGB_Mover_houseOn_2 h  ih
def G_Mover_houseOn (N : Nat) (s : mst) (p0 : Int32) : Option (Int32 × mst) :=
    G_Mover_houseOn_2 N p0 N 0 s
theorem sg_Mover_houseOn {h0 : Nat → pm_C} {B : Nat} {D : Nat → pd} {hi z N : Nat} (h : FX D hi) {p0 : Int32} {s : mst} : F_Mover_houseOn N (mkM h0 B D hi z s) (B + 54) p0 = (G_Mover_houseOn N s p0).map (cvM h0 B D hi z) := by
  simp only [F_Mover_houseOn, G_Mover_houseOn, rdm_54_0 h, vam_55 h, sG_Mover_houseOn_33 h, sG_Mover_houseOn_25 h, sG_Mover_houseOn_2 h, rcm_54 h, Option.bind_some, Option.map_bind, Option.bind_map, Option.map_some, Option.map_none, Option.bind_none, apply_ite (Option.map _), if_true, Function.comp_def, cvM]
  all_goals rfl
def G_Mover_lowestOf_24 (N : Nat)   (s : mst) : Option (Int32 × mst) :=
    some ((-1), s)
theorem sG_Mover_lowestOf_24 {h0 : Nat → pm_C} {B : Nat} {D : Nat → pd} {hi z N : Nat} (h : FX D hi)    {s : mst} : F_Mover_lowestOf_24 N   (mkM h0 B D hi z s) = (G_Mover_lowestOf_24 N   s).map (cvM h0 B D hi z) := by
  simp only [F_Mover_lowestOf_24, G_Mover_lowestOf_24, Option.bind_some, Option.map_bind, Option.bind_map, Option.map_some, Option.map_none, Option.bind_none, apply_ite (Option.map _), if_true, Function.comp_def, cvM]
  all_goals rfl
def G_Mover_lowestOf_16 (N : Nat)  (x1 : Int32) (s : mst) : Option (Int32 × mst) :=
    some (x1, s)
theorem sG_Mover_lowestOf_16 {h0 : Nat → pm_C} {B : Nat} {D : Nat → pd} {hi z N : Nat} (h : FX D hi)   {x1 : Int32} {s : mst} : F_Mover_lowestOf_16 N  x1 (mkM h0 B D hi z s) = (G_Mover_lowestOf_16 N  x1 s).map (cvM h0 B D hi z) := by
  simp only [F_Mover_lowestOf_16, G_Mover_lowestOf_16, sG_Mover_lowestOf_24 h, Option.bind_some, Option.map_bind, Option.bind_map, Option.map_some, Option.map_none, Option.bind_none, apply_ite (Option.map _), if_true, Function.comp_def, cvM]
  all_goals rfl
def GB_Mover_lowestOf_2 (N : Nat)  (rec2 : Int32 → mst → Option (Int32 × mst)) (x0 : Int32) (x1 : Int32) (s : mst) : Option (Int32 × mst) :=
    if 6 ≤ x1 then
    G_Mover_lowestOf_24 N s
    else
    (if ((x0 >>> (x1 &&& 31)) &&& 1) = 0 then
    rec2 (x1 + 1) s
    else
    G_Mover_lowestOf_16 N x1 s)
theorem sGB_Mover_lowestOf_2 {h0 : Nat → pm_C} {B : Nat} {D : Nat → pd} {hi z N : Nat} (h : FX D hi) {rec2 : Int32 → pm_S → Option (Int32 × pm_S)} {grec2 : Int32 → mst → Option (Int32 × mst)} (hrec2 : ∀ (y1 : Int32) (s : mst), rec2 y1 (mkM h0 B D hi z s) = (grec2 y1 s).map (cvM h0 B D hi z)) {x0 : Int32} {x1 : Int32} {s : mst} : B_Mover_lowestOf_2 N rec2 x0 x1 (mkM h0 B D hi z s) = (GB_Mover_lowestOf_2 N grec2 x0 x1 s).map (cvM h0 B D hi z) := by
  simp only [B_Mover_lowestOf_2, GB_Mover_lowestOf_2, sG_Mover_lowestOf_24 h, sG_Mover_lowestOf_16 h, hrec2, Option.bind_some, Option.map_bind, Option.bind_map, Option.map_some, Option.map_none, Option.bind_none, apply_ite (Option.map _), if_true, Function.comp_def, cvM]
  all_goals rfl
def G_Mover_lowestOf_2 (N : Nat)  (x0 : Int32) : Nat → Int32 → mst → Option (Int32 × mst)
  | 0 => fun _ _ => none
  | n + 1 => fun x1 s => GB_Mover_lowestOf_2 N  (G_Mover_lowestOf_2 N  x0 n) x0 x1 s
theorem sG_Mover_lowestOf_2 {h0 : Nat → pm_C} {B : Nat} {D : Nat → pd} {hi z N : Nat} (h : FX D hi)   {x0 : Int32} : ∀ (n : Nat) (x1 : Int32) (s : mst), F_Mover_lowestOf_2 N  x0 n x1 (mkM h0 B D hi z s) = (G_Mover_lowestOf_2 N  x0 n x1 s).map (cvM h0 B D hi z) := by
  intro n
  induction n with
  | zero => intro x1 s; rfl
  | succ n ih => intro x1 s; exact sGB_Mover_lowestOf_2 h  ih
def G_Mover_lowestOf (N : Nat) (s : mst) (p0 : Int32) : Option (Int32 × mst) :=
    G_Mover_lowestOf_2 N p0 N 0 s
theorem sg_Mover_lowestOf {h0 : Nat → pm_C} {B : Nat} {D : Nat → pd} {hi z N : Nat} (h : FX D hi) {p0 : Int32} {s : mst} : F_Mover_lowestOf N (mkM h0 B D hi z s)  p0 = (G_Mover_lowestOf N s p0).map (cvM h0 B D hi z) := by
  simp only [F_Mover_lowestOf, G_Mover_lowestOf, sG_Mover_lowestOf_24 h, sG_Mover_lowestOf_16 h, sG_Mover_lowestOf_2 h, Option.bind_some, Option.map_bind, Option.bind_map, Option.map_some, Option.map_none, Option.bind_none, apply_ite (Option.map _), if_true, Function.comp_def, cvM]
  all_goals rfl
def G_Mover_moveAside_94 (N : Nat)   (s : mst) : Option (Int32 × mst) :=
    some (0, s)
theorem sG_Mover_moveAside_94 {h0 : Nat → pm_C} {B : Nat} {D : Nat → pd} {hi z N : Nat} (h : FX D hi)    {s : mst} : F_Mover_moveAside_94 N   (mkM h0 B D hi z s) = (G_Mover_moveAside_94 N   s).map (cvM h0 B D hi z) := by
  simp only [F_Mover_moveAside_94, G_Mover_moveAside_94, rdm_54_1 h, rdm_54_4 h, sg_Mover_freePairs h, sg_Mover_houseOn h, sg_Mover_isAstray h, sg_Mover_lowestOf h, sg_Mover_move h, vam_56 h, wrm_54_4 h, Option.bind_some, Option.map_bind, Option.bind_map, Option.map_some, Option.map_none, Option.bind_none, apply_ite (Option.map _), if_true, Function.comp_def, cvM]
  all_goals rfl
def G_Mover_moveAside_88 (N : Nat) (rec7 : Int32 → mst → Option (Int32 × mst)) (x1 : Int32) (x2 : Int32) (s : mst) : Option (Int32 × mst) :=
    rec7 (x2 + 1) s
theorem sG_Mover_moveAside_88 {h0 : Nat → pm_C} {B : Nat} {D : Nat → pd} {hi z N : Nat} (h : FX D hi) {rec7 : Int32 → pm_S → Option (Int32 × pm_S)} {grec7 : Int32 → mst → Option (Int32 × mst)} (hrec7 : ∀ (y1 : Int32) (s : mst), rec7 y1 (mkM h0 B D hi z s) = (grec7 y1 s).map (cvM h0 B D hi z)) {x1 : Int32} {x2 : Int32} {s : mst} : F_Mover_moveAside_88 N rec7 (B + 54) x1 x2 (mkM h0 B D hi z s) = (G_Mover_moveAside_88 N grec7 x1 x2 s).map (cvM h0 B D hi z) := by
  simp only [F_Mover_moveAside_88, G_Mover_moveAside_88, rdm_54_1 h, rdm_54_4 h, sg_Mover_freePairs h, sg_Mover_houseOn h, sg_Mover_isAstray h, sg_Mover_lowestOf h, sg_Mover_move h, vam_56 h, wrm_54_4 h, sG_Mover_moveAside_94 h, hrec7, Option.bind_some, Option.map_bind, Option.bind_map, Option.map_some, Option.map_none, Option.bind_none, apply_ite (Option.map _), if_true, Function.comp_def, cvM]
  all_goals rfl
def G_Mover_moveAside_65 (N : Nat)  (x1 : Int32) (x2 : Int32) (s : mst) : Option (Int32 × mst) :=
    (G_Mover_lowestOf N (wrI s 54 4 ((s.1 54 4) ||| (1 <<< (x2 &&& 31)))) x1).bind fun r10 =>
    (G_Mover_move N r10.2 x2 r10.1).bind fun s11 =>
    some (1, s11)
theorem sG_Mover_moveAside_65 {h0 : Nat → pm_C} {B : Nat} {D : Nat → pd} {hi z N : Nat} (h : FX D hi)   {x1 : Int32} {x2 : Int32} {s : mst} : F_Mover_moveAside_65 N  (B + 54) x1 x2 (mkM h0 B D hi z s) = (G_Mover_moveAside_65 N  x1 x2 s).map (cvM h0 B D hi z) := by
  simp only [F_Mover_moveAside_65, G_Mover_moveAside_65, rdm_54_1 h, rdm_54_4 h, sg_Mover_freePairs h, sg_Mover_houseOn h, sg_Mover_isAstray h, sg_Mover_lowestOf h, sg_Mover_move h, vam_56 h, wrm_54_4 h, sG_Mover_moveAside_94 h, Option.bind_some, Option.map_bind, Option.bind_map, Option.map_some, Option.map_none, Option.bind_none, apply_ite (Option.map _), if_true, Function.comp_def, cvM]
  all_goals rfl
def G_Mover_moveAside_33 (N : Nat) (rec7 : Int32 → mst → Option (Int32 × mst)) (x1 : Int32) (x2 : Int32) (t0 : Int32) (s : mst) : Option (Int32 × mst) :=
    if t0 = 0 then
    ((G_Mover_isAstray N s x2).bind fun r4 =>
    if r4.1 = 0 then
    G_Mover_moveAside_88 N rec7 x1 x2 r4.2
    else
    ((G_Mover_houseOn N r4.2 (vat 10 (r4.2.1 56) x2)).bind fun r6 =>
    (G_Mover_isAstray N r6.2 r6.1).bind fun r8 =>
    if r8.1 = 0 then
    G_Mover_moveAside_88 N rec7 x1 x2 r8.2
    else
    G_Mover_moveAside_65 N x1 x2 r8.2))
    else
    G_Mover_moveAside_88 N rec7 x1 x2 s
theorem sG_Mover_moveAside_33 {h0 : Nat → pm_C} {B : Nat} {D : Nat → pd} {hi z N : Nat} (h : FX D hi) {rec7 : Int32 → pm_S → Option (Int32 × pm_S)} {grec7 : Int32 → mst → Option (Int32 × mst)} (hrec7 : ∀ (y1 : Int32) (s : mst), rec7 y1 (mkM h0 B D hi z s) = (grec7 y1 s).map (cvM h0 B D hi z)) {x1 : Int32} {x2 : Int32} {t0 : Int32} {s : mst} : F_Mover_moveAside_33 N rec7 (B + 54) x1 x2 t0 (mkM h0 B D hi z s) = (G_Mover_moveAside_33 N grec7 x1 x2 t0 s).map (cvM h0 B D hi z) := by
  simp only [F_Mover_moveAside_33, G_Mover_moveAside_33, rdm_54_1 h, rdm_54_4 h, sg_Mover_freePairs h, sg_Mover_houseOn h, sg_Mover_isAstray h, sg_Mover_lowestOf h, sg_Mover_move h, vam_56 h, wrm_54_4 h, sG_Mover_moveAside_94 h, sG_Mover_moveAside_88 h hrec7, sG_Mover_moveAside_65 h, hrec7, Option.bind_some, Option.map_bind, Option.bind_map, Option.map_some, Option.map_none, Option.bind_none, apply_ite (Option.map _), if_true, Function.comp_def, cvM]
  all_goals rfl
def GB_Mover_moveAside_7 (N : Nat)  (rec7 : Int32 → mst → Option (Int32 × mst)) (x1 : Int32) (x2 : Int32) (s : mst) : Option (Int32 × mst) :=
    if 10 ≤ x2 then
    G_Mover_moveAside_94 N s
    else
    (if x1 = 0 then
    G_Mover_moveAside_94 N s
    else
    (if (((s.1 54 4) >>> (x2 &&& 31)) &&& 1) = 0 then
    G_Mover_moveAside_33 N rec7 x1 x2 0 s
    else
    G_Mover_moveAside_33 N rec7 x1 x2 1 s))
theorem sGB_Mover_moveAside_7 {h0 : Nat → pm_C} {B : Nat} {D : Nat → pd} {hi z N : Nat} (h : FX D hi) {rec7 : Int32 → pm_S → Option (Int32 × pm_S)} {grec7 : Int32 → mst → Option (Int32 × mst)} (hrec7 : ∀ (y1 : Int32) (s : mst), rec7 y1 (mkM h0 B D hi z s) = (grec7 y1 s).map (cvM h0 B D hi z)) {x1 : Int32} {x2 : Int32} {s : mst} : B_Mover_moveAside_7 N rec7 (B + 54) x1 x2 (mkM h0 B D hi z s) = (GB_Mover_moveAside_7 N grec7 x1 x2 s).map (cvM h0 B D hi z) := by
  simp only [B_Mover_moveAside_7, GB_Mover_moveAside_7, rdm_54_1 h, rdm_54_4 h, sg_Mover_freePairs h, sg_Mover_houseOn h, sg_Mover_isAstray h, sg_Mover_lowestOf h, sg_Mover_move h, vam_56 h, wrm_54_4 h, sG_Mover_moveAside_94 h, sG_Mover_moveAside_88 h hrec7, sG_Mover_moveAside_65 h, sG_Mover_moveAside_33 h hrec7, hrec7, Option.bind_some, Option.map_bind, Option.bind_map, Option.map_some, Option.map_none, Option.bind_none, apply_ite (Option.map _), if_true, Function.comp_def, cvM]
  all_goals rfl
def G_Mover_moveAside_7 (N : Nat)  (x1 : Int32) : Nat → Int32 → mst → Option (Int32 × mst)
  | 0 => fun _ _ => none
  | n + 1 => fun x2 s => GB_Mover_moveAside_7 N  (G_Mover_moveAside_7 N  x1 n) x1 x2 s
theorem sG_Mover_moveAside_7 {h0 : Nat → pm_C} {B : Nat} {D : Nat → pd} {hi z N : Nat} (h : FX D hi)   {x1 : Int32} : ∀ (n : Nat) (x2 : Int32) (s : mst), F_Mover_moveAside_7 N  (B + 54) x1 n x2 (mkM h0 B D hi z s) = (G_Mover_moveAside_7 N  x1 n x2 s).map (cvM h0 B D hi z) := by
  intro n
  induction n with
  | zero => intro x2 s; rfl
  | succ n ih => intro x2 s; exact sGB_Mover_moveAside_7 h  ih
def G_Mover_moveAside (N : Nat) (s : mst)  : Option (Int32 × mst) :=
    (G_Mover_freePairs N s ).bind fun r2 =>
    G_Mover_moveAside_7 N r2.1 N 0 r2.2
theorem sg_Mover_moveAside {h0 : Nat → pm_C} {B : Nat} {D : Nat → pd} {hi z N : Nat} (h : FX D hi)  {s : mst} : F_Mover_moveAside N (mkM h0 B D hi z s) (B + 54)  = (G_Mover_moveAside N s ).map (cvM h0 B D hi z) := by
  simp only [F_Mover_moveAside, G_Mover_moveAside, rdm_54_1 h, rdm_54_4 h, sg_Mover_freePairs h, sg_Mover_houseOn h, sg_Mover_isAstray h, sg_Mover_lowestOf h, sg_Mover_move h, vam_56 h, wrm_54_4 h, sG_Mover_moveAside_94 h, sG_Mover_moveAside_65 h, sG_Mover_moveAside_7 h, rcm_54 h, Option.bind_some, Option.map_bind, Option.bind_map, Option.map_some, Option.map_none, Option.bind_none, apply_ite (Option.map _), if_true, Function.comp_def, cvM]
  all_goals rfl
def G_Mover_moveAt_20 (N : Nat)  (t0 : Int32) (s : mst) : Option (Int32 × mst) :=
    some (t0, s)
theorem sG_Mover_moveAt_20 {h0 : Nat → pm_C} {B : Nat} {D : Nat → pd} {hi z N : Nat} (h : FX D hi)   {t0 : Int32} {s : mst} : F_Mover_moveAt_20 N  t0 (mkM h0 B D hi z s) = (G_Mover_moveAt_20 N  t0 s).map (cvM h0 B D hi z) := by
  simp only [F_Mover_moveAt_20, G_Mover_moveAt_20, rdm_54_2 h, rdm_54_5 h, vam_57 h, Option.bind_some, Option.map_bind, Option.bind_map, Option.map_some, Option.map_none, Option.bind_none, apply_ite (Option.map _), if_true, Function.comp_def, cvM]
  all_goals rfl
def G_Mover_moveAt (N : Nat) (s : mst) (p0 : Int32) : Option (Int32 × mst) :=
    if (s.1 54 5) ≤ p0 then
    G_Mover_moveAt_20 N (-1) s
    else
    G_Mover_moveAt_20 N (vat 20 (s.1 57) p0) s
theorem sg_Mover_moveAt {h0 : Nat → pm_C} {B : Nat} {D : Nat → pd} {hi z N : Nat} (h : FX D hi) {p0 : Int32} {s : mst} : F_Mover_moveAt N (mkM h0 B D hi z s) (B + 54) p0 = (G_Mover_moveAt N s p0).map (cvM h0 B D hi z) := by
  simp only [F_Mover_moveAt, G_Mover_moveAt, rdm_54_2 h, rdm_54_5 h, vam_57 h, sG_Mover_moveAt_20 h, rcm_54 h, Option.bind_some, Option.map_bind, Option.bind_map, Option.map_some, Option.map_none, Option.bind_none, apply_ite (Option.map _), if_true, Function.comp_def, cvM]
  all_goals rfl
