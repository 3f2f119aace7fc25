def G_Lng_bitCount (N : Nat) (s : mst) (p0 : Int64) : Option (Int32 × mst) :=
    some ((Int64.toInt32 ((((((((p0 - (((Int64.toUInt64 p0 >>> ((Int32.toInt64 1).toUInt64 &&& Int64.toUInt64 63)).toInt64) &&& 6148914691236517205)) &&& 3689348814741910323) + (((Int64.toUInt64 (p0 - (((Int64.toUInt64 p0 >>> ((Int32.toInt64 1).toUInt64 &&& Int64.toUInt64 63)).toInt64) &&& 6148914691236517205)) >>> ((Int32.toInt64 2).toUInt64 &&& Int64.toUInt64 63)).toInt64) &&& 3689348814741910323)) + ((Int64.toUInt64 (((p0 - (((Int64.toUInt64 p0 >>> ((Int32.toInt64 1).toUInt64 &&& Int64.toUInt64 63)).toInt64) &&& 6148914691236517205)) &&& 3689348814741910323) + (((Int64.toUInt64 (p0 - (((Int64.toUInt64 p0 >>> ((Int32.toInt64 1).toUInt64 &&& Int64.toUInt64 63)).toInt64) &&& 6148914691236517205)) >>> ((Int32.toInt64 2).toUInt64 &&& Int64.toUInt64 63)).toInt64) &&& 3689348814741910323)) >>> ((Int32.toInt64 4).toUInt64 &&& Int64.toUInt64 63)).toInt64)) &&& 1085102592571150095) + ((Int64.toUInt64 (((((p0 - (((Int64.toUInt64 p0 >>> ((Int32.toInt64 1).toUInt64 &&& Int64.toUInt64 63)).toInt64) &&& 6148914691236517205)) &&& 3689348814741910323) + (((Int64.toUInt64 (p0 - (((Int64.toUInt64 p0 >>> ((Int32.toInt64 1).toUInt64 &&& Int64.toUInt64 63)).toInt64) &&& 6148914691236517205)) >>> ((Int32.toInt64 2).toUInt64 &&& Int64.toUInt64 63)).toInt64) &&& 3689348814741910323)) + ((Int64.toUInt64 (((p0 - (((Int64.toUInt64 p0 >>> ((Int32.toInt64 1).toUInt64 &&& Int64.toUInt64 63)).toInt64) &&& 6148914691236517205)) &&& 3689348814741910323) + (((Int64.toUInt64 (p0 - (((Int64.toUInt64 p0 >>> ((Int32.toInt64 1).toUInt64 &&& Int64.toUInt64 63)).toInt64) &&& 6148914691236517205)) >>> ((Int32.toInt64 2).toUInt64 &&& Int64.toUInt64 63)).toInt64) &&& 3689348814741910323)) >>> ((Int32.toInt64 4).toUInt64 &&& Int64.toUInt64 63)).toInt64)) &&& 1085102592571150095) >>> ((Int32.toInt64 8).toUInt64 &&& Int64.toUInt64 63)).toInt64)) + ((Int64.toUInt64 ((((((p0 - (((Int64.toUInt64 p0 >>> ((Int32.toInt64 1).toUInt64 &&& Int64.toUInt64 63)).toInt64) &&& 6148914691236517205)) &&& 3689348814741910323) + (((Int64.toUInt64 (p0 - (((Int64.toUInt64 p0 >>> ((Int32.toInt64 1).toUInt64 &&& Int64.toUInt64 63)).toInt64) &&& 6148914691236517205)) >>> ((Int32.toInt64 2).toUInt64 &&& Int64.toUInt64 63)).toInt64) &&& 3689348814741910323)) + ((Int64.toUInt64 (((p0 - (((Int64.toUInt64 p0 >>> ((Int32.toInt64 1).toUInt64 &&& Int64.toUInt64 63)).toInt64) &&& 6148914691236517205)) &&& 3689348814741910323) + (((Int64.toUInt64 (p0 - (((Int64.toUInt64 p0 >>> ((Int32.toInt64 1).toUInt64 &&& Int64.toUInt64 63)).toInt64) &&& 6148914691236517205)) >>> ((Int32.toInt64 2).toUInt64 &&& Int64.toUInt64 63)).toInt64) &&& 3689348814741910323)) >>> ((Int32.toInt64 4).toUInt64 &&& Int64.toUInt64 63)).toInt64)) &&& 1085102592571150095) + ((Int64.toUInt64 (((((p0 - (((Int64.toUInt64 p0 >>> ((Int32.toInt64 1).toUInt64 &&& Int64.toUInt64 63)).toInt64) &&& 6148914691236517205)) &&& 3689348814741910323) + (((Int64.toUInt64 (p0 - (((Int64.toUInt64 p0 >>> ((Int32.toInt64 1).toUInt64 &&& Int64.toUInt64 63)).toInt64) &&& 6148914691236517205)) >>> ((Int32.toInt64 2).toUInt64 &&& Int64.toUInt64 63)).toInt64) &&& 3689348814741910323)) + ((Int64.toUInt64 (((p0 - (((Int64.toUInt64 p0 >>> ((Int32.toInt64 1).toUInt64 &&& Int64.toUInt64 63)).toInt64) &&& 6148914691236517205)) &&& 3689348814741910323) + (((Int64.toUInt64 (p0 - (((Int64.toUInt64 p0 >>> ((Int32.toInt64 1).toUInt64 &&& Int64.toUInt64 63)).toInt64) &&& 6148914691236517205)) >>> ((Int32.toInt64 2).toUInt64 &&& Int64.toUInt64 63)).toInt64) &&& 3689348814741910323)) >>> ((Int32.toInt64 4).toUInt64 &&& Int64.toUInt64 63)).toInt64)) &&& 1085102592571150095) >>> ((Int32.toInt64 8).toUInt64 &&& Int64.toUInt64 63)).toInt64)) >>> ((Int32.toInt64 16).toUInt64 &&& Int64.toUInt64 63)).toInt64)) + ((Int64.toUInt64 (((((((p0 - (((Int64.toUInt64 p0 >>> ((Int32.toInt64 1).toUInt64 &&& Int64.toUInt64 63)).toInt64) &&& 6148914691236517205)) &&& 3689348814741910323) + (((Int64.toUInt64 (p0 - (((Int64.toUInt64 p0 >>> ((Int32.toInt64 1).toUInt64 &&& Int64.toUInt64 63)).toInt64) &&& 6148914691236517205)) >>> ((Int32.toInt64 2).toUInt64 &&& Int64.toUInt64 63)).toInt64) &&& 3689348814741910323)) + ((Int64.toUInt64 (((p0 - (((Int64.toUInt64 p0 >>> ((Int32.toInt64 1).toUInt64 &&& Int64.toUInt64 63)).toInt64) &&& 6148914691236517205)) &&& 3689348814741910323) + (((Int64.toUInt64 (p0 - (((Int64.toUInt64 p0 >>> ((Int32.toInt64 1).toUInt64 &&& Int64.toUInt64 63)).toInt64) &&& 6148914691236517205)) >>> ((Int32.toInt64 2).toUInt64 &&& Int64.toUInt64 63)).toInt64) &&& 3689348814741910323)) >>> ((Int32.toInt64 4).toUInt64 &&& Int64.toUInt64 63)).toInt64)) &&& 1085102592571150095) + ((Int64.toUInt64 (((((p0 - (((Int64.toUInt64 p0 >>> ((Int32.toInt64 1).toUInt64 &&& Int64.toUInt64 63)).toInt64) &&& 6148914691236517205)) &&& 3689348814741910323) + (((Int64.toUInt64 (p0 - (((Int64.toUInt64 p0 >>> ((Int32.toInt64 1).toUInt64 &&& Int64.toUInt64 63)).toInt64) &&& 6148914691236517205)) >>> ((Int32.toInt64 2).toUInt64 &&& Int64.toUInt64 63)).toInt64) &&& 3689348814741910323)) + ((Int64.toUInt64 (((p0 - (((Int64.toUInt64 p0 >>> ((Int32.toInt64 1).toUInt64 &&& Int64.toUInt64 63)).toInt64) &&& 6148914691236517205)) &&& 3689348814741910323) + (((Int64.toUInt64 (p0 - (((Int64.toUInt64 p0 >>> ((Int32.toInt64 1).toUInt64 &&& Int64.toUInt64 63)).toInt64) &&& 6148914691236517205)) >>> ((Int32.toInt64 2).toUInt64 &&& Int64.toUInt64 63)).toInt64) &&& 3689348814741910323)) >>> ((Int32.toInt64 4).toUInt64 &&& Int64.toUInt64 63)).toInt64)) &&& 1085102592571150095) >>> ((Int32.toInt64 8).toUInt64 &&& Int64.toUInt64 63)).toInt64)) + ((Int64.toUInt64 ((((((p0 - (((Int64.toUInt64 p0 >>> ((Int32.toInt64 1).toUInt64 &&& Int64.toUInt64 63)).toInt64) &&& 6148914691236517205)) &&& 3689348814741910323) + (((Int64.toUInt64 (p0 - (((Int64.toUInt64 p0 >>> ((Int32.toInt64 1).toUInt64 &&& Int64.toUInt64 63)).toInt64) &&& 6148914691236517205)) >>> ((Int32.toInt64 2).toUInt64 &&& Int64.toUInt64 63)).toInt64) &&& 3689348814741910323)) + ((Int64.toUInt64 (((p0 - (((Int64.toUInt64 p0 >>> ((Int32.toInt64 1).toUInt64 &&& Int64.toUInt64 63)).toInt64) &&& 6148914691236517205)) &&& 3689348814741910323) + (((Int64.toUInt64 (p0 - (((Int64.toUInt64 p0 >>> ((Int32.toInt64 1).toUInt64 &&& Int64.toUInt64 63)).toInt64) &&& 6148914691236517205)) >>> ((Int32.toInt64 2).toUInt64 &&& Int64.toUInt64 63)).toInt64) &&& 3689348814741910323)) >>> ((Int32.toInt64 4).toUInt64 &&& Int64.toUInt64 63)).toInt64)) &&& 1085102592571150095) + ((Int64.toUInt64 (((((p0 - (((Int64.toUInt64 p0 >>> ((Int32.toInt64 1).toUInt64 &&& Int64.toUInt64 63)).toInt64) &&& 6148914691236517205)) &&& 3689348814741910323) + (((Int64.toUInt64 (p0 - (((Int64.toUInt64 p0 >>> ((Int32.toInt64 1).toUInt64 &&& Int64.toUInt64 63)).toInt64) &&& 6148914691236517205)) >>> ((Int32.toInt64 2).toUInt64 &&& Int64.toUInt64 63)).toInt64) &&& 3689348814741910323)) + ((Int64.toUInt64 (((p0 - (((Int64.toUInt64 p0 >>> ((Int32.toInt64 1).toUInt64 &&& Int64.toUInt64 63)).toInt64) &&& 6148914691236517205)) &&& 3689348814741910323) + (((Int64.toUInt64 (p0 - (((Int64.toUInt64 p0 >>> ((Int32.toInt64 1).toUInt64 &&& Int64.toUInt64 63)).toInt64) &&& 6148914691236517205)) >>> ((Int32.toInt64 2).toUInt64 &&& Int64.toUInt64 63)).toInt64) &&& 3689348814741910323)) >>> ((Int32.toInt64 4).toUInt64 &&& Int64.toUInt64 63)).toInt64)) &&& 1085102592571150095) >>> ((Int32.toInt64 8).toUInt64 &&& Int64.toUInt64 63)).toInt64)) >>> ((Int32.toInt64 16).toUInt64 &&& Int64.toUInt64 63)).toInt64)) >>> ((Int32.toInt64 32).toUInt64 &&& Int64.toUInt64 63)).toInt64))) &&& 127, s)
theorem sg_Lng_bitCount {h0 : Nat → pm_C} {B : Nat} {D : Nat → pd} {hi z N : Nat} (h : FX D hi) {p0 : Int64} {s : mst} : F_Lng_bitCount N (mkM h0 B D hi z s)  p0 = (G_Lng_bitCount N s p0).map (cvM h0 B D hi z) := by
  simp only [F_Lng_bitCount, G_Lng_bitCount, Option.bind_some, Option.map_bind, Option.bind_map, Option.map_some, Option.map_none, Option.bind_none, apply_ite (Option.map _), if_true, Function.comp_def, cvM]
  all_goals rfl
def G_Int_bitCount (N : Nat) (s : mst) (p0 : Int32) : Option (Int32 × mst) :=
    some ((((((((p0 - (((p0.toUInt32 >>> (Int32.toUInt32 1 &&& Int32.toUInt32 31)).toInt32) &&& 1431655765)) &&& 858993459) + ((((p0 - (((p0.toUInt32 >>> (Int32.toUInt32 1 &&& Int32.toUInt32 31)).toInt32) &&& 1431655765)).toUInt32 >>> (Int32.toUInt32 2 &&& Int32.toUInt32 31)).toInt32) &&& 858993459)) + (((((p0 - (((p0.toUInt32 >>> (Int32.toUInt32 1 &&& Int32.toUInt32 31)).toInt32) &&& 1431655765)) &&& 858993459) + ((((p0 - (((p0.toUInt32 >>> (Int32.toUInt32 1 &&& Int32.toUInt32 31)).toInt32) &&& 1431655765)).toUInt32 >>> (Int32.toUInt32 2 &&& Int32.toUInt32 31)).toInt32) &&& 858993459)).toUInt32 >>> (Int32.toUInt32 4 &&& Int32.toUInt32 31)).toInt32)) &&& 252645135) + (((((((p0 - (((p0.toUInt32 >>> (Int32.toUInt32 1 &&& Int32.toUInt32 31)).toInt32) &&& 1431655765)) &&& 858993459) + ((((p0 - (((p0.toUInt32 >>> (Int32.toUInt32 1 &&& Int32.toUInt32 31)).toInt32) &&& 1431655765)).toUInt32 >>> (Int32.toUInt32 2 &&& Int32.toUInt32 31)).toInt32) &&& 858993459)) + (((((p0 - (((p0.toUInt32 >>> (Int32.toUInt32 1 &&& Int32.toUInt32 31)).toInt32) &&& 1431655765)) &&& 858993459) + ((((p0 - (((p0.toUInt32 >>> (Int32.toUInt32 1 &&& Int32.toUInt32 31)).toInt32) &&& 1431655765)).toUInt32 >>> (Int32.toUInt32 2 &&& Int32.toUInt32 31)).toInt32) &&& 858993459)).toUInt32 >>> (Int32.toUInt32 4 &&& Int32.toUInt32 31)).toInt32)) &&& 252645135).toUInt32 >>> (Int32.toUInt32 8 &&& Int32.toUInt32 31)).toInt32)) + ((((((((p0 - (((p0.toUInt32 >>> (Int32.toUInt32 1 &&& Int32.toUInt32 31)).toInt32) &&& 1431655765)) &&& 858993459) + ((((p0 - (((p0.toUInt32 >>> (Int32.toUInt32 1 &&& Int32.toUInt32 31)).toInt32) &&& 1431655765)).toUInt32 >>> (Int32.toUInt32 2 &&& Int32.toUInt32 31)).toInt32) &&& 858993459)) + (((((p0 - (((p0.toUInt32 >>> (Int32.toUInt32 1 &&& Int32.toUInt32 31)).toInt32) &&& 1431655765)) &&& 858993459) + ((((p0 - (((p0.toUInt32 >>> (Int32.toUInt32 1 &&& Int32.toUInt32 31)).toInt32) &&& 1431655765)).toUInt32 >>> (Int32.toUInt32 2 &&& Int32.toUInt32 31)).toInt32) &&& 858993459)).toUInt32 >>> (Int32.toUInt32 4 &&& Int32.toUInt32 31)).toInt32)) &&& 252645135) + (((((((p0 - (((p0.toUInt32 >>> (Int32.toUInt32 1 &&& Int32.toUInt32 31)).toInt32) &&& 1431655765)) &&& 858993459) + ((((p0 - (((p0.toUInt32 >>> (Int32.toUInt32 1 &&& Int32.toUInt32 31)).toInt32) &&& 1431655765)).toUInt32 >>> (Int32.toUInt32 2 &&& Int32.toUInt32 31)).toInt32) &&& 858993459)) + (((((p0 - (((p0.toUInt32 >>> (Int32.toUInt32 1 &&& Int32.toUInt32 31)).toInt32) &&& 1431655765)) &&& 858993459) + ((((p0 - (((p0.toUInt32 >>> (Int32.toUInt32 1 &&& Int32.toUInt32 31)).toInt32) &&& 1431655765)).toUInt32 >>> (Int32.toUInt32 2 &&& Int32.toUInt32 31)).toInt32) &&& 858993459)).toUInt32 >>> (Int32.toUInt32 4 &&& Int32.toUInt32 31)).toInt32)) &&& 252645135).toUInt32 >>> (Int32.toUInt32 8 &&& Int32.toUInt32 31)).toInt32)).toUInt32 >>> (Int32.toUInt32 16 &&& Int32.toUInt32 31)).toInt32)) &&& 63, s)
theorem sg_Int_bitCount {h0 : Nat → pm_C} {B : Nat} {D : Nat → pd} {hi z N : Nat} (h : FX D hi) {p0 : Int32} {s : mst} : F_Int_bitCount N (mkM h0 B D hi z s)  p0 = (G_Int_bitCount N s p0).map (cvM h0 B D hi z) := by
  simp only [F_Int_bitCount, G_Int_bitCount, Option.bind_some, Option.map_bind, Option.bind_map, Option.map_some, Option.map_none, Option.bind_none, apply_ite (Option.map _), if_true, Function.comp_def, cvM]
  all_goals rfl
def G_M_thrown (N : Nat) (s : mst)  : Option (Int32 × mst) :=
    some (s.1 85 0, s)
theorem sg_M_thrown {h0 : Nat → pm_C} {B : Nat} {D : Nat → pd} {hi z N : Nat} (h : FX D hi)  {s : mst} : F_M_thrown N (mkM h0 B D hi z s) (B + 85)  = (G_M_thrown N s ).map (cvM h0 B D hi z) := by
  simp only [F_M_thrown, G_M_thrown, rdm_85_0 h, rcm_85 h, Option.bind_some, Option.map_bind, Option.bind_map, Option.map_some, Option.map_none, Option.bind_none, apply_ite (Option.map _), if_true, Function.comp_def, cvM]
  all_goals rfl
def G_M_bytesIn_33 (N : Nat)  (x1 : Int32) (s : mst) : Option (Int32 × mst) :=
    some (x1, s)
theorem sG_M_bytesIn_33 {h0 : Nat → pm_C} {B : Nat} {D : Nat → pd} {hi z N : Nat} (h : FX D hi)   {x1 : Int32} {s : mst} : F_M_bytesIn_33 N  x1 (mkM h0 B D hi z s) = (G_M_bytesIn_33 N  x1 s).map (cvM h0 B D hi z) := by
  simp only [F_M_bytesIn_33, G_M_bytesIn_33, Option.bind_some, Option.map_bind, Option.bind_map, Option.map_some, Option.map_none, Option.bind_none, apply_ite (Option.map _), if_true, Function.comp_def, cvM]
  all_goals rfl
def G_M_bytesIn_25 (N : Nat) (rec5 : Int32 → Int32 → mst → Option (Int32 × mst)) (x0 : Int32) (x2 : Int32) (t0 : Int32) (t1 : Int32) (s : mst) : Option (Int32 × mst) :=
    rec5 (t1 + t0) (x2 + (-8)) s
theorem sG_M_bytesIn_25 {h0 : Nat → pm_C} {B : Nat} {D : Nat → pd} {hi z N : Nat} (h : FX D hi) {rec5 : Int32 → Int32 → pm_S → Option (Int32 × pm_S)} {grec5 : Int32 → Int32 → mst → Option (Int32 × mst)} (hrec5 : ∀ (y1 : Int32) (y2 : Int32) (s : mst), rec5 y1 y2 (mkM h0 B D hi z s) = (grec5 y1 y2 s).map (cvM h0 B D hi z)) {x0 : Int32} {x2 : Int32} {t0 : Int32} {t1 : Int32} {s : mst} : F_M_bytesIn_25 N rec5 x0 x2 t0 t1 (mkM h0 B D hi z s) = (G_M_bytesIn_25 N grec5 x0 x2 t0 t1 s).map (cvM h0 B D hi z) := by
  simp only [F_M_bytesIn_25, G_M_bytesIn_25, sG_M_bytesIn_33 h, hrec5, Option.bind_some, Option.map_bind, Option.bind_map, Option.map_some, Option.map_none, Option.bind_none, apply_ite (Option.map _), if_true, Function.comp_def, cvM]
  all_goals rfl
def GB_M_bytesIn_5 (N : Nat)  (rec5 : Int32 → Int32 → mst → Option (Int32 × mst)) (x0 : Int32) (x1 : Int32) (x2 : Int32) (s : mst) : Option (Int32 × mst) :=
    if x2 < 0 then
    G_M_bytesIn_33 N x1 s
    else
    (if ((x0 >>> (x2 &&& 31)) &&& 255) = 0 then
    G_M_bytesIn_25 N rec5 x0 x2 0 x1 s
    else
    G_M_bytesIn_25 N rec5 x0 x2 1 x1 s)
theorem sGB_M_bytesIn_5 {h0 : Nat → pm_C} {B : Nat} {D : Nat → pd} {hi z N : Nat} (h : FX D hi) {rec5 : Int32 → Int32 → pm_S → Option (Int32 × pm_S)} {grec5 : Int32 → Int32 → mst → Option (Int32 × mst)} (hrec5 : ∀ (y1 : Int32) (y2 : Int32) (s : mst), rec5 y1 y2 (mkM h0 B D hi z s) = (grec5 y1 y2 s).map (cvM h0 B D hi z)) {x0 : Int32} {x1 : Int32} {x2 : Int32} {s : mst} : B_M_bytesIn_5 N rec5 x0 x1 x2 (mkM h0 B D hi z s) = (GB_M_bytesIn_5 N grec5 x0 x1 x2 s).map (cvM h0 B D hi z) := by
  simp only [B_M_bytesIn_5, GB_M_bytesIn_5, sG_M_bytesIn_33 h, sG_M_bytesIn_25 h hrec5, hrec5, Option.bind_some, Option.map_bind, Option.bind_map, Option.map_some, Option.map_none, Option.bind_none, apply_ite (Option.map _), if_true, Function.comp_def, cvM]
  all_goals rfl
def G_M_bytesIn_5 (N : Nat)  (x0 : Int32) : Nat → Int32 → Int32 → mst → Option (Int32 × mst)
  | 0 => fun _ _ _ => none
  | n + 1 => fun x1 x2 s => GB_M_bytesIn_5 N  (G_M_bytesIn_5 N  x0 n) x0 x1 x2 s
theorem sG_M_bytesIn_5 {h0 : Nat → pm_C} {B : Nat} {D : Nat → pd} {hi z N : Nat} (h : FX D hi)   {x0 : Int32} : ∀ (n : Nat) (x1 : Int32) (x2 : Int32) (s : mst), F_M_bytesIn_5 N  x0 n x1 x2 (mkM h0 B D hi z s) = (G_M_bytesIn_5 N  x0 n x1 x2 s).map (cvM h0 B D hi z) := by
  intro n
  induction n with
  | zero => intro x1 x2 s; rfl
  | succ n ih => intro x1 x2 s; exact sGB_M_bytesIn_5 h  ih
def G_M_bytesIn (N : Nat) (s : mst) (p0 : Int32) : Option (Int32 × mst) :=
    G_M_bytesIn_5 N p0 N 0 24 s
theorem sg_M_bytesIn {h0 : Nat → pm_C} {B : Nat} {D : Nat → pd} {hi z N : Nat} (h : FX D hi) {p0 : Int32} {s : mst} : F_M_bytesIn N (mkM h0 B D hi z s)  p0 = (G_M_bytesIn N s p0).map (cvM h0 B D hi z) := by
  simp only [F_M_bytesIn, G_M_bytesIn, sG_M_bytesIn_33 h, sG_M_bytesIn_5 h, Option.bind_some, Option.map_bind, Option.bind_map, Option.map_some, Option.map_none, Option.bind_none, apply_ite (Option.map _), if_true, Function.comp_def, cvM]
  all_goals rfl
def G_M_put_49 (N : Nat)   (s : mst) : Option mst :=
    some s
theorem sG_M_put_49 {h0 : Nat → pm_C} {B : Nat} {D : Nat → pd} {hi z N : Nat} (h : FX D hi)    {s : mst} : F_M_put_49 N   (mkM h0 B D hi z s) = (G_M_put_49 N   s).map (mkM h0 B D hi z) := by
  simp only [F_M_put_49, G_M_put_49, rdm_85_1 h, rdm_85_2 h, sim_86 h, wrm_85_2 h, Option.bind_some, Option.map_bind, Option.bind_map, Option.map_some, Option.map_none, Option.bind_none, apply_ite (Option.map _), if_true, Function.comp_def, cvM]
  all_goals rfl
def G_M_put_43 (N : Nat) (rec3 : Int32 → mst → Option mst) (x1 : Int32) (x2 : Int32) (s : mst) : Option mst :=
    rec3 (x2 + (-8)) s
theorem sG_M_put_43 {h0 : Nat → pm_C} {B : Nat} {D : Nat → pd} {hi z N : Nat} (h : FX D hi) {rec3 : Int32 → pm_S → Option pm_S} {grec3 : Int32 → mst → Option mst} (hrec3 : ∀ (y1 : Int32) (s : mst), rec3 y1 (mkM h0 B D hi z s) = (grec3 y1 s).map (mkM h0 B D hi z)) {x1 : Int32} {x2 : Int32} {s : mst} : F_M_put_43 N rec3 (B + 85) x1 x2 (mkM h0 B D hi z s) = (G_M_put_43 N grec3 x1 x2 s).map (mkM h0 B D hi z) := by
  simp only [F_M_put_43, G_M_put_43, rdm_85_1 h, rdm_85_2 h, sim_86 h, wrm_85_2 h, sG_M_put_49 h, hrec3, Option.bind_some, Option.map_bind, Option.bind_map, Option.map_some, Option.map_none, Option.bind_none, apply_ite (Option.map _), if_true, Function.comp_def, cvM]
  all_goals rfl
def GB_M_put_3 (N : Nat)  (rec3 : Int32 → mst → Option mst) (x1 : Int32) (x2 : Int32) (s : mst) : Option mst :=
    if x2 < 0 then
    G_M_put_49 N s
    else
    (if ((x1 >>> (x2 &&& 31)) &&& 255) = 0 then
    G_M_put_43 N rec3 x1 x2 s
    else
    ((stA 2 s 86 300 (s.1 85 2) ((Int32.toInt8 (x1 >>> (x2 &&& 31))).toInt32)).bind fun s1 =>
    G_M_put_43 N rec3 x1 x2 (wrI s1 85 2 ((s1.1 85 2) + 1))))
theorem sGB_M_put_3 {h0 : Nat → pm_C} {B : Nat} {D : Nat → pd} {hi z N : Nat} (h : FX D hi) {rec3 : Int32 → pm_S → Option pm_S} {grec3 : Int32 → mst → Option mst} (hrec3 : ∀ (y1 : Int32) (s : mst), rec3 y1 (mkM h0 B D hi z s) = (grec3 y1 s).map (mkM h0 B D hi z)) {x1 : Int32} {x2 : Int32} {s : mst} : B_M_put_3 N rec3 (B + 85) x1 x2 (mkM h0 B D hi z s) = (GB_M_put_3 N grec3 x1 x2 s).map (mkM h0 B D hi z) := by
  simp only [B_M_put_3, GB_M_put_3, rdm_85_1 h, rdm_85_2 h, sim_86 h, wrm_85_2 h, sG_M_put_49 h, sG_M_put_43 h hrec3, hrec3, Option.bind_some, Option.map_bind, Option.bind_map, Option.map_some, Option.map_none, Option.bind_none, apply_ite (Option.map _), if_true, Function.comp_def, cvM]
  all_goals rfl
def G_M_put_3 (N : Nat)  (x1 : Int32) : Nat → Int32 → mst → Option mst
  | 0 => fun _ _ => none
  | n + 1 => fun x2 s => GB_M_put_3 N  (G_M_put_3 N  x1 n) x1 x2 s
theorem sG_M_put_3 {h0 : Nat → pm_C} {B : Nat} {D : Nat → pd} {hi z N : Nat} (h : FX D hi)   {x1 : Int32} : ∀ (n : Nat) (x2 : Int32) (s : mst), F_M_put_3 N  (B + 85) x1 n x2 (mkM h0 B D hi z s) = (G_M_put_3 N  x1 n x2 s).map (mkM h0 B D hi z) := by
  intro n
  induction n with
  | zero => intro x2 s; rfl
  | succ n ih => intro x2 s; exact sGB_M_put_3 h  ih
def G_M_put (N : Nat) (s : mst) (p0 : Int32) : Option mst :=
    G_M_put_3 N p0 N 24 s
theorem sg_M_put {h0 : Nat → pm_C} {B : Nat} {D : Nat → pd} {hi z N : Nat} (h : FX D hi) {p0 : Int32} {s : mst} : F_M_put N (mkM h0 B D hi z s) (B + 85) p0 = (G_M_put N s p0).map (mkM h0 B D hi z) := by
  simp only [F_M_put, G_M_put, rdm_85_1 h, rdm_85_2 h, sim_86 h, wrm_85_2 h, sG_M_put_49 h, sG_M_put_3 h, rcm_85 h, Option.bind_some, Option.map_bind, Option.bind_map, Option.map_some, Option.map_none, Option.bind_none, apply_ite (Option.map _), if_true, Function.comp_def, cvM]
  all_goals rfl
def G_M_feed (N : Nat) (s : mst) (p0 : Int32) (p1 : Int32) (p2 : Int32) (p3 : Int32) (p4 : Int32) : Option (Int32 × mst) :=
    (G_M_bytesIn N (wrI s 85 0 0) p0).bind fun r2 =>
    (G_M_bytesIn N r2.2 p1).bind fun r4 =>
    (G_M_bytesIn N r4.2 p2).bind fun r6 =>
    (G_M_bytesIn N r6.2 p3).bind fun r8 =>
    (G_M_bytesIn N r8.2 p4).bind fun r10 =>
    if (((((((wrI s 85 0 0).1 85 2) + r2.1) + r4.1) + r6.1) + r8.1) + r10.1) ≤ 300 then
    ((G_M_put N r10.2 p0).bind fun s11 =>
    (G_M_put N s11 p1).bind fun s12 =>
    (G_M_put N s12 p2).bind fun s13 =>
    (G_M_put N s13 p3).bind fun s14 =>
    (G_M_put N s14 p4).bind fun s15 =>
    some (s15.1 85 2, s15))
    else
    some ((-1), r10.2)
theorem sg_M_feed {h0 : Nat → pm_C} {B : Nat} {D : Nat → pd} {hi z N : Nat} (h : FX D hi) {p0 : Int32} {p1 : Int32} {p2 : Int32} {p3 : Int32} {p4 : Int32} {s : mst} : F_M_feed N (mkM h0 B D hi z s) (B + 85) p0 p1 p2 p3 p4 = (G_M_feed N s p0 p1 p2 p3 p4).map (cvM h0 B D hi z) := by
  simp only [F_M_feed, G_M_feed, rdm_85_2 h, sg_M_bytesIn h, sg_M_put h, wrm_85_0 h, rcm_85 h, Option.bind_some, Option.map_bind, Option.bind_map, Option.map_some, Option.map_none, Option.bind_none, apply_ite (Option.map _), if_true, Function.comp_def, cvM]
  all_goals rfl
def G_M_end_17 (N : Nat)   (s : mst) : Option (Int32 × mst) :=
    some (0, s)
theorem sG_M_end_17 {h0 : Nat → pm_C} {B : Nat} {D : Nat → pd} {hi z N : Nat} (h : FX D hi)    {s : mst} : F_M_end_17 N   (mkM h0 B D hi z s) = (G_M_end_17 N   s).map (cvM h0 B D hi z) := by
  simp only [F_M_end_17, G_M_end_17, rdm_85_2 h, wrm_85_0 h, wrm_85_2 h, Option.bind_some, Option.map_bind, Option.bind_map, Option.map_some, Option.map_none, Option.bind_none, apply_ite (Option.map _), if_true, Function.comp_def, cvM]
  all_goals rfl
def G_M_end (N : Nat) (s : mst) (p0 : Int32) : Option (Int32 × mst) :=
    if p0 < 0 then
    G_M_end_17 N (wrI s 85 0 0)
    else
    (if p0 ≤ ((wrI s 85 0 0).1 85 2) then
    some (1, (wrI (wrI s 85 0 0) 85 2 p0))
    else
    G_M_end_17 N (wrI s 85 0 0))
theorem sg_M_end {h0 : Nat → pm_C} {B : Nat} {D : Nat → pd} {hi z N : Nat} (h : FX D hi) {p0 : Int32} {s : mst} : F_M_end N (mkM h0 B D hi z s) (B + 85) p0 = (G_M_end N s p0).map (cvM h0 B D hi z) := by
  simp only [F_M_end, G_M_end, rdm_85_2 h, wrm_85_0 h, wrm_85_2 h, sG_M_end_17 h, rcm_85 h, Option.bind_some, Option.map_bind, Option.bind_map, Option.map_some, Option.map_none, Option.bind_none, apply_ite (Option.map _), if_true, Function.comp_def, cvM]
  all_goals rfl
def G_M_here_28 (N : Nat)  (t0 : Int32) (s : mst) : Option (Int32 × mst) :=
    some (t0, s)
theorem sG_M_here_28 {h0 : Nat → pm_C} {B : Nat} {D : Nat → pd} {hi z N : Nat} (h : FX D hi)   {t0 : Int32} {s : mst} : F_M_here_28 N  t0 (mkM h0 B D hi z s) = (G_M_here_28 N  t0 s).map (cvM h0 B D hi z) := by
  simp only [F_M_here_28, G_M_here_28, aim_86 h, rdm_85_1 h, rdm_85_2 h, rdm_85_3 h, Option.bind_some, Option.map_bind, Option.bind_map, Option.map_some, Option.map_none, Option.bind_none, apply_ite (Option.map _), if_true, Function.comp_def, cvM]
  all_goals rfl
def G_M_here (N : Nat) (s : mst)  : Option (Int32 × mst) :=
    if (s.1 85 2) ≤ (s.1 85 3) then
    G_M_here_28 N (-1) s
    else
    ((rdA s 86 300 (s.1 85 3)).bind fun v1 =>
    G_M_here_28 N (v1 &&& 255) s)
theorem sg_M_here {h0 : Nat → pm_C} {B : Nat} {D : Nat → pd} {hi z N : Nat} (h : FX D hi)  {s : mst} : F_M_here N (mkM h0 B D hi z s) (B + 85)  = (G_M_here N s ).map (cvM h0 B D hi z) := by
  simp only [F_M_here, G_M_here, aim_86 h, rdm_85_1 h, rdm_85_2 h, rdm_85_3 h, sG_M_here_28 h, rcm_85 h, Option.bind_some, Option.map_bind, Option.bind_map, Option.map_some, Option.map_none, Option.bind_none, apply_ite (Option.map _), if_true, Function.comp_def, cvM]
  all_goals rfl
def G_M_look_22 (N : Nat)   (s : mst) : Option (Int32 × mst) :=
    (G_M_here N s ).bind fun r4 =>
    some (r4.1, r4.2)
theorem sG_M_look_22 {h0 : Nat → pm_C} {B : Nat} {D : Nat → pd} {hi z N : Nat} (h : FX D hi)    {s : mst} : F_M_look_22 N  (B + 85) (mkM h0 B D hi z s) = (G_M_look_22 N   s).map (cvM h0 B D hi z) := by
  simp only [F_M_look_22, G_M_look_22, rdm_85_3 h, sg_M_here h, wrm_85_3 h, Option.bind_some, Option.map_bind, Option.bind_map, Option.map_some, Option.map_none, Option.bind_none, apply_ite (Option.map _), if_true, Function.comp_def, cvM]
  all_goals rfl
def GB_M_look_0 (N : Nat)  (rec0 : mst → Option (Int32 × mst))   (s : mst) : Option (Int32 × mst) :=
    (G_M_here N s ).bind fun r2 =>
    if r2.1 = 32 then
    rec0 (wrI r2.2 85 3 ((r2.2.1 85 3) + 1))
    else
    G_M_look_22 N r2.2
theorem sGB_M_look_0 {h0 : Nat → pm_C} {B : Nat} {D : Nat → pd} {hi z N : Nat} (h : FX D hi) {rec0 : pm_S → Option (Int32 × pm_S)} {grec0 : mst → Option (Int32 × mst)} (hrec0 : ∀  (s : mst), rec0  (mkM h0 B D hi z s) = (grec0  s).map (cvM h0 B D hi z))  {s : mst} : B_M_look_0 N rec0 (B + 85) (mkM h0 B D hi z s) = (GB_M_look_0 N grec0  s).map (cvM h0 B D hi z) := by
  simp only [B_M_look_0, GB_M_look_0, rdm_85_3 h, sg_M_here h, wrm_85_3 h, sG_M_look_22 h, hrec0, Option.bind_some, Option.map_bind, Option.bind_map, Option.map_some, Option.map_none, Option.bind_none, apply_ite (Option.map _), if_true, Function.comp_def, cvM]
  all_goals rfl
def G_M_look_0 (N : Nat)   : Nat → mst → Option (Int32 × mst)
  | 0 => fun _ => none
  | n + 1 => fun  s => GB_M_look_0 N  (G_M_look_0 N   n)   s
theorem sG_M_look_0 {h0 : Nat → pm_C} {B : Nat} {D : Nat → pd} {hi z N : Nat} (h : FX D hi)    : ∀ (n : Nat)  (s : mst), F_M_look_0 N  (B + 85) n  (mkM h0 B D hi z s) = (G_M_look_0 N   n  s).map (cvM h0 B D hi z) := by
  intro n
  induction n with
  | zero => intro  s; rfl
  | succ n ih => intro  s; exact sGB_M_look_0 h  ih
def G_M_look (N : Nat) (s : mst)  : Option (Int32 × mst) :=
    G_M_look_0 N  N s
theorem sg_M_look {h0 : Nat → pm_C} {B : Nat} {D : Nat → pd} {hi z N : Nat} (h : FX D hi)  {s : mst} : F_M_look N (mkM h0 B D hi z s) (B + 85)  = (G_M_look N s ).map (cvM h0 B D hi z) := by
  simp only [F_M_look, G_M_look, rdm_85_3 h, sg_M_here h, wrm_85_3 h, sG_M_look_22 h, sG_M_look_0 h, rcm_85 h, Option.bind_some, Option.map_bind, Option.bind_map, Option.map_some, Option.map_none, Option.bind_none, apply_ite (Option.map _), if_true, Function.comp_def, cvM]
  all_goals rfl
def G_M_fails_13 (N : Nat)   (s : mst) : Option (Int32 × mst) :=
    some (0, s)
theorem sG_M_fails_13 {h0 : Nat → pm_C} {B : Nat} {D : Nat → pd} {hi z N : Nat} (h : FX D hi)    {s : mst} : F_M_fails_13 N   (mkM h0 B D hi z s) = (G_M_fails_13 N   s).map (cvM h0 B D hi z) := by
  simp only [F_M_fails_13, G_M_fails_13, rdm_85_4 h, wrm_85_4 h, Option.bind_some, Option.map_bind, Option.bind_map, Option.map_some, Option.map_none, Option.bind_none, apply_ite (Option.map _), if_true, Function.comp_def, cvM]
  all_goals rfl
def G_M_fails (N : Nat) (s : mst) (p0 : Int32) : Option (Int32 × mst) :=
    if (s.1 85 4) = (-1) then
    G_M_fails_13 N (wrI s 85 4 p0)
    else
    G_M_fails_13 N s
theorem sg_M_fails {h0 : Nat → pm_C} {B : Nat} {D : Nat → pd} {hi z N : Nat} (h : FX D hi) {p0 : Int32} {s : mst} : F_M_fails N (mkM h0 B D hi z s) (B + 85) p0 = (G_M_fails N s p0).map (cvM h0 B D hi z) := by
  simp only [F_M_fails, G_M_fails, rdm_85_4 h, wrm_85_4 h, sG_M_fails_13 h, rcm_85 h, Option.bind_some, Option.map_bind, Option.bind_map, Option.map_some, Option.map_none, Option.bind_none, apply_ite (Option.map _), if_true, Function.comp_def, cvM]
  all_goals rfl
def G_M_isDigit_23 (N : Nat)  (t0 : Int32) (s : mst) : Option (Int32 × mst) :=
    if t0 = 0 ∨ t0 = 1 then some (t0, s) else none
theorem sG_M_isDigit_23 {h0 : Nat → pm_C} {B : Nat} {D : Nat → pd} {hi z N : Nat} (h : FX D hi)   {t0 : Int32} {s : mst} : F_M_isDigit_23 N  t0 (mkM h0 B D hi z s) = (G_M_isDigit_23 N  t0 s).map (cvM h0 B D hi z) := by
  simp only [F_M_isDigit_23, G_M_isDigit_23, sg_M_here h, Option.bind_some, Option.map_bind, Option.bind_map, Option.map_some, Option.map_none, Option.bind_none, apply_ite (Option.map _), if_true, Function.comp_def, cvM]
  all_goals rfl
def G_M_isDigit_22 (N : Nat)   (s : mst) : Option (Int32 × mst) :=
    G_M_isDigit_23 N 0 s
theorem sG_M_isDigit_22 {h0 : Nat → pm_C} {B : Nat} {D : Nat → pd} {hi z N : Nat} (h : FX D hi)    {s : mst} : F_M_isDigit_22 N   (mkM h0 B D hi z s) = (G_M_isDigit_22 N   s).map (cvM h0 B D hi z) := by
  simp only [F_M_isDigit_22, G_M_isDigit_22, sg_M_here h, sG_M_isDigit_23 h, Option.bind_some, Option.map_bind, Option.bind_map, Option.map_some, Option.map_none, Option.bind_none, apply_ite (Option.map _), if_true, Function.comp_def, cvM]
  all_goals rfl
def G_M_isDigit (N : Nat) (s : mst)  : Option (Int32 × mst) :=
    (G_M_here N s ).bind fun r2 =>
    if r2.1 < 48 then
    G_M_isDigit_22 N r2.2
    else
    ((G_M_here N r2.2 ).bind fun r4 =>
    if 57 < r4.1 then
    G_M_isDigit_22 N r4.2
    else
    G_M_isDigit_23 N 1 r4.2)
theorem sg_M_isDigit {h0 : Nat → pm_C} {B : Nat} {D : Nat → pd} {hi z N : Nat} (h : FX D hi)  {s : mst} : F_M_isDigit N (mkM h0 B D hi z s) (B + 85)  = (G_M_isDigit N s ).map (cvM h0 B D hi z) := by
  simp only [F_M_isDigit, G_M_isDigit, sg_M_here h, sG_M_isDigit_23 h, sG_M_isDigit_22 h, rcm_85 h, Option.bind_some, Option.map_bind, Option.bind_map, Option.map_some, Option.map_none, Option.bind_none, apply_ite (Option.map _), if_true, Function.comp_def, cvM]
  all_goals rfl
def G_M_isIn_15 (N : Nat)  (t0 : Int32) (s : mst) : Option (Int32 × mst) :=
    if t0 = 0 ∨ t0 = 1 then some (t0, s) else none
theorem sG_M_isIn_15 {h0 : Nat → pm_C} {B : Nat} {D : Nat → pd} {hi z N : Nat} (h : FX D hi)   {t0 : Int32} {s : mst} : F_M_isIn_15 N  t0 (mkM h0 B D hi z s) = (G_M_isIn_15 N  t0 s).map (cvM h0 B D hi z) := by
  simp only [F_M_isIn_15, G_M_isIn_15, Option.bind_some, Option.map_bind, Option.bind_map, Option.map_some, Option.map_none, Option.bind_none, apply_ite (Option.map _), if_true, Function.comp_def, cvM]
  all_goals rfl
def G_M_isIn_14 (N : Nat)   (s : mst) : Option (Int32 × mst) :=
    G_M_isIn_15 N 0 s
theorem sG_M_isIn_14 {h0 : Nat → pm_C} {B : Nat} {D : Nat → pd} {hi z N : Nat} (h : FX D hi)    {s : mst} : F_M_isIn_14 N   (mkM h0 B D hi z s) = (G_M_isIn_14 N   s).map (cvM h0 B D hi z) := by
  simp only [F_M_isIn_14, G_M_isIn_14, sG_M_isIn_15 h, Option.bind_some, Option.map_bind, Option.bind_map, Option.map_some, Option.map_none, Option.bind_none, apply_ite (Option.map _), if_true, Function.comp_def, cvM]
  all_goals rfl
def G_M_isIn (N : Nat) (s : mst) (p0 : Int32) (p1 : Int32) (p2 : Int32) : Option (Int32 × mst) :=
    if p0 < p1 then
    G_M_isIn_14 N s
    else
    (if p2 < p0 then
    G_M_isIn_14 N s
    else
    G_M_isIn_15 N 1 s)
theorem sg_M_isIn {h0 : Nat → pm_C} {B : Nat} {D : Nat → pd} {hi z N : Nat} (h : FX D hi) {p0 : Int32} {p1 : Int32} {p2 : Int32} {s : mst} : F_M_isIn N (mkM h0 B D hi z s)  p0 p1 p2 = (G_M_isIn N s p0 p1 p2).map (cvM h0 B D hi z) := by
  simp only [F_M_isIn, G_M_isIn, sG_M_isIn_15 h, sG_M_isIn_14 h, Option.bind_some, Option.map_bind, Option.bind_map, Option.map_some, Option.map_none, Option.bind_none, apply_ite (Option.map _), if_true, Function.comp_def, cvM]
  all_goals rfl
def G_M_comesTo_35 (N : Nat)   (s : mst) : Option (Int32 × mst) :=
    some ((-1), s)
theorem sG_M_comesTo_35 {h0 : Nat → pm_C} {B : Nat} {D : Nat → pd} {hi z N : Nat} (h : FX D hi)    {s : mst} : F_M_comesTo_35 N   (mkM h0 B D hi z s) = (G_M_comesTo_35 N   s).map (cvM h0 B D hi z) := by
  simp only [F_M_comesTo_35, G_M_comesTo_35, aim_88 h, aim_90 h, rdm_85_7 h, rdm_85_9 h, Option.bind_some, Option.map_bind, Option.bind_map, Option.map_some, Option.map_none, Option.bind_none, apply_ite (Option.map _), if_true, Function.comp_def, cvM]
  all_goals rfl
def G_M_comesTo_27 (N : Nat)  (x3 : Int32) (s : mst) : Option (Int32 × mst) :=
    some (x3, s)
theorem sG_M_comesTo_27 {h0 : Nat → pm_C} {B : Nat} {D : Nat → pd} {hi z N : Nat} (h : FX D hi)   {x3 : Int32} {s : mst} : F_M_comesTo_27 N  x3 (mkM h0 B D hi z s) = (G_M_comesTo_27 N  x3 s).map (cvM h0 B D hi z) := by
  simp only [F_M_comesTo_27, G_M_comesTo_27, aim_88 h, aim_90 h, rdm_85_7 h, rdm_85_9 h, sG_M_comesTo_35 h, Option.bind_some, Option.map_bind, Option.bind_map, Option.map_some, Option.map_none, Option.bind_none, apply_ite (Option.map _), if_true, Function.comp_def, cvM]
  all_goals rfl
def GB_M_comesTo_2 (N : Nat)  (rec2 : Int32 → mst → Option (Int32 × mst)) (x1 : Int32) (x2 : Int32) (x3 : Int32) (s : mst) : Option (Int32 × mst) :=
    (rdA s 88 7 x1).bind fun v1 =>
    if v1 ≤ x3 then
    G_M_comesTo_35 N s
    else
    ((rdA s 90 49 ((7 * x1) + x3)).bind fun v2 =>
    if v2 = x2 then
    G_M_comesTo_27 N x3 s
    else
    rec2 (x3 + 1) s)
theorem sGB_M_comesTo_2 {h0 : Nat → pm_C} {B : Nat} {D : Nat → pd} {hi z N : Nat} (h : FX D hi) {rec2 : Int32 → pm_S → Option (Int32 × pm_S)} {grec2 : Int32 → mst → Option (Int32 × mst)} (hrec2 : ∀ (y1 : Int32) (s : mst), rec2 y1 (mkM h0 B D hi z s) = (grec2 y1 s).map (cvM h0 B D hi z)) {x1 : Int32} {x2 : Int32} {x3 : Int32} {s : mst} : B_M_comesTo_2 N rec2 (B + 85) x1 x2 x3 (mkM h0 B D hi z s) = (GB_M_comesTo_2 N grec2 x1 x2 x3 s).map (cvM h0 B D hi z) := by
  simp only [B_M_comesTo_2, GB_M_comesTo_2, aim_88 h, aim_90 h, rdm_85_7 h, rdm_85_9 h, sG_M_comesTo_35 h, sG_M_comesTo_27 h, hrec2, Option.bind_some, Option.map_bind, Option.bind_map, Option.map_some, Option.map_none, Option.bind_none, apply_ite (Option.map _), if_true, Function.comp_def, cvM]
  all_goals rfl
def G_M_comesTo_2 (N : Nat)  (x1 : Int32) (x2 : Int32) : Nat → Int32 → mst → Option (Int32 × mst)
  | 0 => fun _ _ => none
  | n + 1 => fun x3 s => GB_M_comesTo_2 N  (G_M_comesTo_2 N  x1 x2 n) x1 x2 x3 s
theorem sG_M_comesTo_2 {h0 : Nat → pm_C} {B : Nat} {D : Nat → pd} {hi z N : Nat} (h : FX D hi)   {x1 : Int32} {x2 : Int32} : ∀ (n : Nat) (x3 : Int32) (s : mst), F_M_comesTo_2 N  (B + 85) x1 x2 n x3 (mkM h0 B D hi z s) = (G_M_comesTo_2 N  x1 x2 n x3 s).map (cvM h0 B D hi z) := by
  intro n
  induction n with
  | zero => intro x3 s; rfl
  | succ n ih => intro x3 s; exact sGB_M_comesTo_2 h  ih
def G_M_comesTo (N : Nat) (s : mst) (p0 : Int32) (p1 : Int32) : Option (Int32 × mst) :=
    G_M_comesTo_2 N p0 p1 N 0 s
theorem sg_M_comesTo {h0 : Nat → pm_C} {B : Nat} {D : Nat → pd} {hi z N : Nat} (h : FX D hi) {p0 : Int32} {p1 : Int32} {s : mst} : F_M_comesTo N (mkM h0 B D hi z s) (B + 85) p0 p1 = (G_M_comesTo N s p0 p1).map (cvM h0 B D hi z) := by
  simp only [F_M_comesTo, G_M_comesTo, aim_88 h, aim_90 h, rdm_85_7 h, rdm_85_9 h, sG_M_comesTo_35 h, sG_M_comesTo_27 h, sG_M_comesTo_2 h, rcm_85 h, Option.bind_some, Option.map_bind, Option.bind_map, Option.map_some, Option.map_none, Option.bind_none, apply_ite (Option.map _), if_true, Function.comp_def, cvM]
  all_goals rfl
def G_M_number_163 (N : Nat)   (s : mst) : Option (Int32 × mst) :=
    (G_M_fails N s ((s.1 85 3) - 1)).bind fun r16 =>
    if r16.1 = 0 ∨ r16.1 = 1 then some (r16.1, r16.2) else none
theorem sG_M_number_163 {h0 : Nat → pm_C} {B : Nat} {D : Nat → pd} {hi z N : Nat} (h : FX D hi)    {s : mst} : F_M_number_163 N  (B + 85) (mkM h0 B D hi z s) = (G_M_number_163 N   s).map (cvM h0 B D hi z) := by
  simp only [F_M_number_163, G_M_number_163, aim_89 h, aim_90 h, rdm_85_3 h, rdm_85_5 h, rdm_85_8 h, rdm_85_9 h, sg_M_comesTo h, sg_M_fails h, sg_M_here h, sg_M_isDigit h, sg_M_isIn h, sg_M_look h, wrm_85_3 h, wrm_85_5 h, Option.bind_some, Option.map_bind, Option.bind_map, Option.map_some, Option.map_none, Option.bind_none, apply_ite (Option.map _), if_true, Function.comp_def, cvM]
  all_goals rfl
def G_M_number_197 (N : Nat)  (t0 : Int32) (s : mst) : Option (Int32 × mst) :=
    if t0 = 0 ∨ t0 = 1 then some (t0, s) else none
theorem sG_M_number_197 {h0 : Nat → pm_C} {B : Nat} {D : Nat → pd} {hi z N : Nat} (h : FX D hi)   {t0 : Int32} {s : mst} : F_M_number_197 N  t0 (mkM h0 B D hi z s) = (G_M_number_197 N  t0 s).map (cvM h0 B D hi z) := by
  simp only [F_M_number_197, G_M_number_197, aim_89 h, aim_90 h, rdm_85_3 h, rdm_85_5 h, rdm_85_8 h, rdm_85_9 h, sg_M_comesTo h, sg_M_fails h, sg_M_here h, sg_M_isDigit h, sg_M_isIn h, sg_M_look h, wrm_85_3 h, wrm_85_5 h, sG_M_number_163 h, Option.bind_some, Option.map_bind, Option.bind_map, Option.map_some, Option.map_none, Option.bind_none, apply_ite (Option.map _), if_true, Function.comp_def, cvM]
  all_goals rfl
def G_M_number_192 (N : Nat)   (s : mst) : Option (Int32 × mst) :=
    G_M_number_197 N 1 s
theorem sG_M_number_192 {h0 : Nat → pm_C} {B : Nat} {D : Nat → pd} {hi z N : Nat} (h : FX D hi)    {s : mst} : F_M_number_192 N   (mkM h0 B D hi z s) = (G_M_number_192 N   s).map (cvM h0 B D hi z) := by
  simp only [F_M_number_192, G_M_number_192, aim_89 h, aim_90 h, rdm_85_3 h, rdm_85_5 h, rdm_85_8 h, rdm_85_9 h, sg_M_comesTo h, sg_M_fails h, sg_M_here h, sg_M_isDigit h, sg_M_isIn h, sg_M_look h, wrm_85_3 h, wrm_85_5 h, sG_M_number_163 h, sG_M_number_197 h, Option.bind_some, Option.map_bind, Option.bind_map, Option.map_some, Option.map_none, Option.bind_none, apply_ite (Option.map _), if_true, Function.comp_def, cvM]
  all_goals rfl
def G_M_number_174 (N : Nat)   (s : mst) : Option (Int32 × mst) :=
    (G_M_isDigit N s ).bind fun r22 =>
    if r22.1 = 0 then
    G_M_number_192 N r22.2
    else
    ((G_M_fails N r22.2 (r22.2.1 85 3)).bind fun r24 =>
    if r24.1 = 0 then
    G_M_number_197 N 0 r24.2
    else
    G_M_number_192 N r24.2)
theorem sG_M_number_174 {h0 : Nat → pm_C} {B : Nat} {D : Nat → pd} {hi z N : Nat} (h : FX D hi)    {s : mst} : F_M_number_174 N  (B + 85) (mkM h0 B D hi z s) = (G_M_number_174 N   s).map (cvM h0 B D hi z) := by
  simp only [F_M_number_174, G_M_number_174, aim_89 h, aim_90 h, rdm_85_3 h, rdm_85_5 h, rdm_85_8 h, rdm_85_9 h, sg_M_comesTo h, sg_M_fails h, sg_M_here h, sg_M_isDigit h, sg_M_isIn h, sg_M_look h, wrm_85_3 h, wrm_85_5 h, sG_M_number_163 h, sG_M_number_197 h, sG_M_number_192 h, Option.bind_some, Option.map_bind, Option.bind_map, Option.map_some, Option.map_none, Option.bind_none, apply_ite (Option.map _), if_true, Function.comp_def, cvM]
  all_goals rfl
def G_M_number_127 (N : Nat)  (x3 : Int32) (x4 : Int32) (x5 : Int32) (s : mst) : Option (Int32 × mst) :=
    if x3 = 2 then
    ((rdA s 89 49 ((7 * x4) + (s.1 85 5))).bind fun v19 =>
    (rdA s 90 49 ((7 * x4) + x5)).bind fun v20 =>
    if v19 = v20 then
    G_M_number_174 N s
    else
    G_M_number_163 N s)
    else
    G_M_number_174 N s
theorem sG_M_number_127 {h0 : Nat → pm_C} {B : Nat} {D : Nat → pd} {hi z N : Nat} (h : FX D hi)   {x3 : Int32} {x4 : Int32} {x5 : Int32} {s : mst} : F_M_number_127 N  (B + 85) x3 x4 x5 (mkM h0 B D hi z s) = (G_M_number_127 N  x3 x4 x5 s).map (cvM h0 B D hi z) := by
  simp only [F_M_number_127, G_M_number_127, aim_89 h, aim_90 h, rdm_85_3 h, rdm_85_5 h, rdm_85_8 h, rdm_85_9 h, sg_M_comesTo h, sg_M_fails h, sg_M_here h, sg_M_isDigit h, sg_M_isIn h, sg_M_look h, wrm_85_3 h, wrm_85_5 h, sG_M_number_163 h, sG_M_number_197 h, sG_M_number_192 h, sG_M_number_174 h, Option.bind_some, Option.map_bind, Option.bind_map, Option.map_some, Option.map_none, Option.bind_none, apply_ite (Option.map _), if_true, Function.comp_def, cvM]
  all_goals rfl
def G_M_number_96 (N : Nat)  (x1 : Int32) (x2 : Int32) (x3 : Int32) (x4 : Int32) (x5 : Int32) (s : mst) : Option (Int32 × mst) :=
    (G_M_isIn N s (s.1 85 5) x1 x2).bind fun r14 =>
    if r14.1 = 0 then
    G_M_number_163 N r14.2
    else
    (if x3 = 1 then
    ((G_M_comesTo N r14.2 x4 (r14.2.1 85 5)).bind fun r18 =>
    if r18.1 = (-1) then
    G_M_number_127 N x3 x4 x5 r18.2
    else
    G_M_number_163 N r18.2)
    else
    G_M_number_127 N x3 x4 x5 r14.2)
theorem sG_M_number_96 {h0 : Nat → pm_C} {B : Nat} {D : Nat → pd} {hi z N : Nat} (h : FX D hi)   {x1 : Int32} {x2 : Int32} {x3 : Int32} {x4 : Int32} {x5 : Int32} {s : mst} : F_M_number_96 N  (B + 85) x1 x2 x3 x4 x5 (mkM h0 B D hi z s) = (G_M_number_96 N  x1 x2 x3 x4 x5 s).map (cvM h0 B D hi z) := by
  simp only [F_M_number_96, G_M_number_96, aim_89 h, aim_90 h, rdm_85_3 h, rdm_85_5 h, rdm_85_8 h, rdm_85_9 h, sg_M_comesTo h, sg_M_fails h, sg_M_here h, sg_M_isDigit h, sg_M_isIn h, sg_M_look h, wrm_85_3 h, wrm_85_5 h, sG_M_number_163 h, sG_M_number_197 h, sG_M_number_192 h, sG_M_number_174 h, sG_M_number_127 h, Option.bind_some, Option.map_bind, Option.bind_map, Option.map_some, Option.map_none, Option.bind_none, apply_ite (Option.map _), if_true, Function.comp_def, cvM]
  all_goals rfl
def G_M_number (N : Nat) (s : mst) (p0 : Int32) (p1 : Int32) (p2 : Int32) (p3 : Int32) (p4 : Int32) : Option (Int32 × mst) :=
    (G_M_here N s ).bind fun r2 =>
    if r2.1 = 32 then
    ((G_M_look N r2.2 ).bind fun r4 =>
    (G_M_isDigit N r4.2 ).bind fun r6 =>
    if r6.1 = 0 then
    ((G_M_fails N r6.2 (r6.2.1 85 3)).bind fun r8 =>
    if r8.1 = 0 ∨ r8.1 = 1 then some (r8.1, r8.2) else none)
    else
    ((G_M_here N r6.2 ).bind fun r10 =>
    (G_M_isDigit N (wrI (wrI r10.2 85 5 (r10.1 - 48)) 85 3 (((wrI r10.2 85 5 (r10.1 - 48)).1 85 3) + 1)) ).bind fun r12 =>
    if r12.1 = 0 then
    G_M_number_96 N p0 p1 p2 p3 p4 r12.2
    else
    ((G_M_here N r12.2 ).bind fun r26 =>
    G_M_number_96 N p0 p1 p2 p3 p4 (wrI (wrI r26.2 85 5 (((10 * (r12.2.1 85 5)) + r26.1) - 48)) 85 3 (((wrI r26.2 85 5 (((10 * (r12.2.1 85 5)) + r26.1) - 48)).1 85 3) + 1)))))
    else
    ((G_M_fails N r2.2 (r2.2.1 85 3)).bind fun r28 =>
    if r28.1 = 0 ∨ r28.1 = 1 then some (r28.1, r28.2) else none)
theorem sg_M_number {h0 : Nat → pm_C} {B : Nat} {D : Nat → pd} {hi z N : Nat} (h : FX D hi) {p0 : Int32} {p1 : Int32} {p2 : Int32} {p3 : Int32} {p4 : Int32} {s : mst} : F_M_number N (mkM h0 B D hi z s) (B + 85) p0 p1 p2 p3 p4 = (G_M_number N s p0 p1 p2 p3 p4).map (cvM h0 B D hi z) := by
  simp only [F_M_number, G_M_number, aim_89 h, aim_90 h, rdm_85_3 h, rdm_85_5 h, rdm_85_8 h, rdm_85_9 h, sg_M_comesTo h, sg_M_fails h, sg_M_here h, sg_M_isDigit h, sg_M_isIn h, sg_M_look h, wrm_85_3 h, wrm_85_5 h, sG_M_number_163 h, sG_M_number_197 h, sG_M_number_192 h, sG_M_number_174 h, sG_M_number_127 h, sG_M_number_96 h, rcm_85 h, Option.bind_some, Option.map_bind, Option.bind_map, Option.map_some, Option.map_none, Option.bind_none, apply_ite (Option.map _), if_true, Function.comp_def, cvM]
  all_goals rfl
def G_M_readCable (N : Nat) (s : mst) (p0 : Int32) : Option (Int32 × mst) :=
    (rdA s 87 7 p0).bind fun v1 =>
    (G_M_number N s 0 (v1 - 1) 0 p0 0).bind fun r3 =>
    if r3.1 = 0 then
    some (0, r3.2)
    else
    ((rdA r3.2 87 7 p0).bind fun v4 =>
    (G_M_number N r3.2 ((r3.2.1 85 5) + 1) (v4 - 1) 1 p0 0).bind fun r6 =>
    if r6.1 = 0 then
    some (0, r6.2)
    else
    ((G_M_number N r6.2 1 6 0 p0 0).bind fun r8 =>
    if r8.1 = 0 then
    some (0, r8.2)
    else
    ((G_M_number N r8.2 1 99 0 p0 0).bind fun r10 =>
    if r10.1 = 0 then
    some (0, r10.2)
    else
    ((rdA r10.2 88 7 p0).bind fun v11 =>
    (stA 0 r10.2 89 49 ((7 * p0) + v11) (r3.2.1 85 5)).bind fun s12 =>
    (stA 0 s12 90 49 ((7 * p0) + v11) (r6.2.1 85 5)).bind fun s13 =>
    (stA 0 s13 91 49 ((7 * p0) + v11) (r8.2.1 85 5)).bind fun s14 =>
    (stA 0 s14 92 49 ((7 * p0) + v11) (s14.1 85 5)).bind fun s15 =>
    (rdA s15 88 7 p0).bind fun v16 =>
    (stA 0 s15 88 7 p0 (v16 + 1)).bind fun s17 =>
    some (1, s17)))))
theorem sg_M_readCable {h0 : Nat → pm_C} {B : Nat} {D : Nat → pd} {hi z N : Nat} (h : FX D hi) {p0 : Int32} {s : mst} : F_M_readCable N (mkM h0 B D hi z s) (B + 85) p0 = (G_M_readCable N s p0).map (cvM h0 B D hi z) := by
  simp only [F_M_readCable, G_M_readCable, aim_87 h, aim_88 h, rdm_85_10 h, rdm_85_11 h, rdm_85_5 h, rdm_85_6 h, rdm_85_7 h, rdm_85_8 h, rdm_85_9 h, sg_M_number h, sim_88 h, sim_89 h, sim_90 h, sim_91 h, sim_92 h, rcm_85 h, Option.bind_some, Option.map_bind, Option.bind_map, Option.map_some, Option.map_none, Option.bind_none, apply_ite (Option.map _), if_true, Function.comp_def, cvM]
  all_goals rfl
def G_M_tell (N : Nat) (s : mst) (p0 : Int32) (p1 : Int32) (p2 : Int32) (p3 : Int32) (p4 : Int32) (p5 : Int32) : Option mst :=
    (rdA s 93 7 p0).bind fun v1 =>
    (stA 0 s 94 420 ((60 * p0) + v1) p1).bind fun s2 =>
    (stA 0 s2 95 420 ((60 * p0) + v1) p2).bind fun s3 =>
    (stA 0 s3 96 420 ((60 * p0) + v1) p3).bind fun s4 =>
    (stA 0 s4 97 420 ((60 * p0) + v1) p4).bind fun s5 =>
    (stA 0 s5 98 420 ((60 * p0) + v1) p5).bind fun s6 =>
    (rdA s6 93 7 p0).bind fun v7 =>
    (stA 0 s6 93 7 p0 (v7 + 1)).bind fun s8 =>
    some s8
theorem sg_M_tell {h0 : Nat → pm_C} {B : Nat} {D : Nat → pd} {hi z N : Nat} (h : FX D hi) {p0 : Int32} {p1 : Int32} {p2 : Int32} {p3 : Int32} {p4 : Int32} {p5 : Int32} {s : mst} : F_M_tell N (mkM h0 B D hi z s) (B + 85) p0 p1 p2 p3 p4 p5 = (G_M_tell N s p0 p1 p2 p3 p4 p5).map (mkM h0 B D hi z) := by
  simp only [F_M_tell, G_M_tell, aim_93 h, rdm_85_12 h, rdm_85_13 h, rdm_85_14 h, rdm_85_15 h, rdm_85_16 h, rdm_85_17 h, sim_93 h, sim_94 h, sim_95 h, sim_96 h, sim_97 h, sim_98 h, rcm_85 h, Option.bind_some, Option.map_bind, Option.bind_map, Option.map_some, Option.map_none, Option.bind_none, apply_ite (Option.map _), if_true, Function.comp_def, cvM]
  all_goals rfl
def G_M_readTold (N : Nat) (s : mst) (p0 : Int32) (p1 : Int32) : Option (Int32 × mst) :=
    (rdA s 88 7 p0).bind fun v1 =>
    (G_M_number N s 0 (v1 - 1) 0 p0 0).bind fun r3 =>
    if r3.1 = 0 then
    some (0, r3.2)
    else
    ((rdA r3.2 91 49 ((7 * p0) + (r3.2.1 85 5))).bind fun v4 =>
    (G_M_number N r3.2 0 (v4 - 1) 0 p0 0).bind fun r6 =>
    if r6.1 = 0 then
    some (0, r6.2)
    else
    (if p1 = 1 then
    ((G_M_number N r6.2 0 9 0 p0 0).bind fun r8 =>
    if r8.1 = 0 then
    some (0, r8.2)
    else
    ((G_M_tell N r8.2 p0 1 (r3.2.1 85 5) (r6.2.1 85 5) (r8.2.1 85 5) 0).bind fun s9 =>
    some (1, s9)))
    else
    ((rdA r6.2 88 7 p0).bind fun v10 =>
    (G_M_number N r6.2 0 (v10 - 1) 2 p0 (r3.2.1 85 5)).bind fun r12 =>
    if r12.1 = 0 then
    some (0, r12.2)
    else
    ((rdA r12.2 91 49 ((7 * p0) + (r12.2.1 85 5))).bind fun v13 =>
    (G_M_number N r12.2 0 (v13 - 1) 0 p0 0).bind fun r15 =>
    if r15.1 = 0 then
    some (0, r15.2)
    else
    ((G_M_tell N r15.2 p0 0 (r3.2.1 85 5) (r6.2.1 85 5) (r12.2.1 85 5) (r15.2.1 85 5)).bind fun s16 =>
    some (1, s16))))))
theorem sg_M_readTold {h0 : Nat → pm_C} {B : Nat} {D : Nat → pd} {hi z N : Nat} (h : FX D hi) {p0 : Int32} {p1 : Int32} {s : mst} : F_M_readTold N (mkM h0 B D hi z s) (B + 85) p0 p1 = (G_M_readTold N s p0 p1).map (cvM h0 B D hi z) := by
  simp only [F_M_readTold, G_M_readTold, aim_88 h, aim_91 h, rdm_85_10 h, rdm_85_5 h, rdm_85_7 h, sg_M_number h, sg_M_tell h, rcm_85 h, Option.bind_some, Option.map_bind, Option.bind_map, Option.map_some, Option.map_none, Option.bind_none, apply_ite (Option.map _), if_true, Function.comp_def, cvM]
  all_goals rfl
def G_M_readPlan_185 (N : Nat)   (s : mst) : Option (Int32 × mst) :=
    some (0, s)
theorem sG_M_readPlan_185 {h0 : Nat → pm_C} {B : Nat} {D : Nat → pd} {hi z N : Nat} (h : FX D hi)    {s : mst} : F_M_readPlan_185 N   (mkM h0 B D hi z s) = (G_M_readPlan_185 N   s).map (cvM h0 B D hi z) := by
  simp only [F_M_readPlan_185, G_M_readPlan_185, rdm_85_12 h, rdm_85_18 h, rdm_85_19 h, rdm_85_2 h, rdm_85_3 h, rdm_85_5 h, rdm_85_6 h, rdm_85_7 h, sg_M_fails h, sg_M_look h, sg_M_number h, sg_M_readCable h, sg_M_readTold h, sim_87 h, sim_88 h, sim_93 h, sim_99 h, wrm_85_3 h, wrm_85_4 h, Option.bind_some, Option.map_bind, Option.bind_map, Option.map_some, Option.map_none, Option.bind_none, apply_ite (Option.map _), if_true, Function.comp_def, cvM]
  all_goals rfl
def G_M_readPlan_180 (N : Nat) (rec89 : mst → Option (Int32 × mst)) (x1 : Int32) (t0 : Int32) (s : mst) : Option (Int32 × mst) :=
    if t0 = 0 then
    G_M_readPlan_185 N s
    else
    rec89 s
theorem sG_M_readPlan_180 {h0 : Nat → pm_C} {B : Nat} {D : Nat → pd} {hi z N : Nat} (h : FX D hi) {rec89 : pm_S → Option (Int32 × pm_S)} {grec89 : mst → Option (Int32 × mst)} (hrec89 : ∀  (s : mst), rec89  (mkM h0 B D hi z s) = (grec89  s).map (cvM h0 B D hi z)) {x1 : Int32} {t0 : Int32} {s : mst} : F_M_readPlan_180 N rec89 (B + 85) x1 t0 (mkM h0 B D hi z s) = (G_M_readPlan_180 N grec89 x1 t0 s).map (cvM h0 B D hi z) := by
  simp only [F_M_readPlan_180, G_M_readPlan_180, rdm_85_12 h, rdm_85_18 h, rdm_85_19 h, rdm_85_2 h, rdm_85_3 h, rdm_85_5 h, rdm_85_6 h, rdm_85_7 h, sg_M_fails h, sg_M_look h, sg_M_number h, sg_M_readCable h, sg_M_readTold h, sim_87 h, sim_88 h, sim_93 h, sim_99 h, wrm_85_3 h, wrm_85_4 h, sG_M_readPlan_185 h, hrec89, Option.bind_some, Option.map_bind, Option.bind_map, Option.map_some, Option.map_none, Option.bind_none, apply_ite (Option.map _), if_true, Function.comp_def, cvM]
  all_goals rfl
def G_M_readPlan_177 (N : Nat) (rec89 : mst → Option (Int32 × mst)) (x1 : Int32) (t0 : Int32) (t1 : Int32) (s : mst) : Option (Int32 × mst) :=
    (G_M_readTold N s t1 t0).bind fun r16 =>
    G_M_readPlan_180 N rec89 x1 r16.1 r16.2
theorem sG_M_readPlan_177 {h0 : Nat → pm_C} {B : Nat} {D : Nat → pd} {hi z N : Nat} (h : FX D hi) {rec89 : pm_S → Option (Int32 × pm_S)} {grec89 : mst → Option (Int32 × mst)} (hrec89 : ∀  (s : mst), rec89  (mkM h0 B D hi z s) = (grec89  s).map (cvM h0 B D hi z)) {x1 : Int32} {t0 : Int32} {t1 : Int32} {s : mst} : F_M_readPlan_177 N rec89 (B + 85) x1 t0 t1 (B + 85) (mkM h0 B D hi z s) = (G_M_readPlan_177 N grec89 x1 t0 t1 s).map (cvM h0 B D hi z) := by
  simp only [F_M_readPlan_177, G_M_readPlan_177, rdm_85_12 h, rdm_85_18 h, rdm_85_19 h, rdm_85_2 h, rdm_85_3 h, rdm_85_5 h, rdm_85_6 h, rdm_85_7 h, sg_M_fails h, sg_M_look h, sg_M_number h, sg_M_readCable h, sg_M_readTold h, sim_87 h, sim_88 h, sim_93 h, sim_99 h, wrm_85_3 h, wrm_85_4 h, sG_M_readPlan_185 h, sG_M_readPlan_180 h hrec89, hrec89, Option.bind_some, Option.map_bind, Option.bind_map, Option.map_some, Option.map_none, Option.bind_none, apply_ite (Option.map _), if_true, Function.comp_def, cvM]
  all_goals rfl
def G_M_readPlan_140 (N : Nat) (rec89 : mst → Option (Int32 × mst)) (x1 : Int32) (x2 : Int32) (s : mst) : Option (Int32 × mst) :=
    if x2 = 99 then
    ((G_M_readCable N (wrI s 85 3 ((s.1 85 3) + 1)) x1).bind fun r14 =>
    G_M_readPlan_180 N rec89 x1 r14.1 r14.2)
    else
    (if x2 = 106 then
    G_M_readPlan_177 N rec89 x1 0 x1 (wrI s 85 3 ((s.1 85 3) + 1))
    else
    G_M_readPlan_177 N rec89 x1 1 x1 (wrI s 85 3 ((s.1 85 3) + 1)))
theorem sG_M_readPlan_140 {h0 : Nat → pm_C} {B : Nat} {D : Nat → pd} {hi z N : Nat} (h : FX D hi) {rec89 : pm_S → Option (Int32 × pm_S)} {grec89 : mst → Option (Int32 × mst)} (hrec89 : ∀  (s : mst), rec89  (mkM h0 B D hi z s) = (grec89  s).map (cvM h0 B D hi z)) {x1 : Int32} {x2 : Int32} {s : mst} : F_M_readPlan_140 N rec89 (B + 85) x1 x2 (mkM h0 B D hi z s) = (G_M_readPlan_140 N grec89 x1 x2 s).map (cvM h0 B D hi z) := by
  simp only [F_M_readPlan_140, G_M_readPlan_140, rdm_85_12 h, rdm_85_18 h, rdm_85_19 h, rdm_85_2 h, rdm_85_3 h, rdm_85_5 h, rdm_85_6 h, rdm_85_7 h, sg_M_fails h, sg_M_look h, sg_M_number h, sg_M_readCable h, sg_M_readTold h, sim_87 h, sim_88 h, sim_93 h, sim_99 h, wrm_85_3 h, wrm_85_4 h, sG_M_readPlan_185 h, sG_M_readPlan_180 h hrec89, sG_M_readPlan_177 h hrec89, hrec89, Option.bind_some, Option.map_bind, Option.bind_map, Option.map_some, Option.map_none, Option.bind_none, apply_ite (Option.map _), if_true, Function.comp_def, cvM]
  all_goals rfl
def G_M_readPlan_131 (N : Nat)   (s : mst) : Option (Int32 × mst) :=
    (G_M_fails N s (s.1 85 3)).bind fun r18 =>
    if r18.1 = 0 ∨ r18.1 = 1 then some (r18.1, r18.2) else none
theorem sG_M_readPlan_131 {h0 : Nat → pm_C} {B : Nat} {D : Nat → pd} {hi z N : Nat} (h : FX D hi)    {s : mst} : F_M_readPlan_131 N  (B + 85) (mkM h0 B D hi z s) = (G_M_readPlan_131 N   s).map (cvM h0 B D hi z) := by
  simp only [F_M_readPlan_131, G_M_readPlan_131, rdm_85_12 h, rdm_85_18 h, rdm_85_19 h, rdm_85_2 h, rdm_85_3 h, rdm_85_5 h, rdm_85_6 h, rdm_85_7 h, sg_M_fails h, sg_M_look h, sg_M_number h, sg_M_readCable h, sg_M_readTold h, sim_87 h, sim_88 h, sim_93 h, sim_99 h, wrm_85_3 h, wrm_85_4 h, sG_M_readPlan_185 h, Option.bind_some, Option.map_bind, Option.bind_map, Option.map_some, Option.map_none, Option.bind_none, apply_ite (Option.map _), if_true, Function.comp_def, cvM]
  all_goals rfl
def G_M_readPlan_217 (N : Nat)  (t0 : Int32) (s : mst) : Option (Int32 × mst) :=
    if t0 = 0 ∨ t0 = 1 then some (t0, s) else none
theorem sG_M_readPlan_217 {h0 : Nat → pm_C} {B : Nat} {D : Nat → pd} {hi z N : Nat} (h : FX D hi)   {t0 : Int32} {s : mst} : F_M_readPlan_217 N  t0 (mkM h0 B D hi z s) = (G_M_readPlan_217 N  t0 s).map (cvM h0 B D hi z) := by
  simp only [F_M_readPlan_217, G_M_readPlan_217, rdm_85_12 h, rdm_85_18 h, rdm_85_19 h, rdm_85_2 h, rdm_85_3 h, rdm_85_5 h, rdm_85_6 h, rdm_85_7 h, sg_M_fails h, sg_M_look h, sg_M_number h, sg_M_readCable h, sg_M_readTold h, sim_87 h, sim_88 h, sim_93 h, sim_99 h, wrm_85_3 h, wrm_85_4 h, sG_M_readPlan_185 h, sG_M_readPlan_131 h, Option.bind_some, Option.map_bind, Option.bind_map, Option.map_some, Option.map_none, Option.bind_none, apply_ite (Option.map _), if_true, Function.comp_def, cvM]
  all_goals rfl
def G_M_readPlan_212 (N : Nat)   (s : mst) : Option (Int32 × mst) :=
    G_M_readPlan_217 N 1 s
theorem sG_M_readPlan_212 {h0 : Nat → pm_C} {B : Nat} {D : Nat → pd} {hi z N : Nat} (h : FX D hi)    {s : mst} : F_M_readPlan_212 N   (mkM h0 B D hi z s) = (G_M_readPlan_212 N   s).map (cvM h0 B D hi z) := by
  simp only [F_M_readPlan_212, G_M_readPlan_212, rdm_85_12 h, rdm_85_18 h, rdm_85_19 h, rdm_85_2 h, rdm_85_3 h, rdm_85_5 h, rdm_85_6 h, rdm_85_7 h, sg_M_fails h, sg_M_look h, sg_M_number h, sg_M_readCable h, sg_M_readTold h, sim_87 h, sim_88 h, sim_93 h, sim_99 h, wrm_85_3 h, wrm_85_4 h, sG_M_readPlan_185 h, sG_M_readPlan_131 h, sG_M_readPlan_217 h, Option.bind_some, Option.map_bind, Option.bind_map, Option.map_some, Option.map_none, Option.bind_none, apply_ite (Option.map _), if_true, Function.comp_def, cvM]
  all_goals rfl
def G_M_readPlan_190 (N : Nat)   (s : mst) : Option (Int32 × mst) :=
    if (s.1 85 3) = (s.1 85 2) then
    G_M_readPlan_212 N s
    else
    ((G_M_fails N s (s.1 85 3)).bind fun r20 =>
    if r20.1 = 0 then
    G_M_readPlan_217 N 0 r20.2
    else
    G_M_readPlan_212 N r20.2)
theorem sG_M_readPlan_190 {h0 : Nat → pm_C} {B : Nat} {D : Nat → pd} {hi z N : Nat} (h : FX D hi)    {s : mst} : F_M_readPlan_190 N  (B + 85) (mkM h0 B D hi z s) = (G_M_readPlan_190 N   s).map (cvM h0 B D hi z) := by
  simp only [F_M_readPlan_190, G_M_readPlan_190, rdm_85_12 h, rdm_85_18 h, rdm_85_19 h, rdm_85_2 h, rdm_85_3 h, rdm_85_5 h, rdm_85_6 h, rdm_85_7 h, sg_M_fails h, sg_M_look h, sg_M_number h, sg_M_readCable h, sg_M_readTold h, sim_87 h, sim_88 h, sim_93 h, sim_99 h, wrm_85_3 h, wrm_85_4 h, sG_M_readPlan_185 h, sG_M_readPlan_131 h, sG_M_readPlan_217 h, sG_M_readPlan_212 h, Option.bind_some, Option.map_bind, Option.bind_map, Option.map_some, Option.map_none, Option.bind_none, apply_ite (Option.map _), if_true, Function.comp_def, cvM]
  all_goals rfl
def GB_M_readPlan_89 (N : Nat)  (rec89 : mst → Option (Int32 × mst)) (x1 : Int32)  (s : mst) : Option (Int32 × mst) :=
    (G_M_look N s ).bind fun r10 =>
    if r10.1 = 59 then
    ((G_M_look N (wrI r10.2 85 3 ((r10.2.1 85 3) + 1)) ).bind fun r12 =>
    if r12.1 = 99 then
    G_M_readPlan_140 N rec89 x1 r12.1 r12.2
    else
    (if r12.1 = 106 then
    G_M_readPlan_140 N rec89 x1 r12.1 r12.2
    else
    (if r12.1 = 104 then
    G_M_readPlan_140 N rec89 x1 r12.1 r12.2
    else
    G_M_readPlan_131 N r12.2)))
    else
    G_M_readPlan_190 N r10.2
theorem sGB_M_readPlan_89 {h0 : Nat → pm_C} {B : Nat} {D : Nat → pd} {hi z N : Nat} (h : FX D hi) {rec89 : pm_S → Option (Int32 × pm_S)} {grec89 : mst → Option (Int32 × mst)} (hrec89 : ∀  (s : mst), rec89  (mkM h0 B D hi z s) = (grec89  s).map (cvM h0 B D hi z)) {x1 : Int32} {s : mst} : B_M_readPlan_89 N rec89 (B + 85) x1 (mkM h0 B D hi z s) = (GB_M_readPlan_89 N grec89 x1 s).map (cvM h0 B D hi z) := by
  simp only [B_M_readPlan_89, GB_M_readPlan_89, rdm_85_12 h, rdm_85_18 h, rdm_85_19 h, rdm_85_2 h, rdm_85_3 h, rdm_85_5 h, rdm_85_6 h, rdm_85_7 h, sg_M_fails h, sg_M_look h, sg_M_number h, sg_M_readCable h, sg_M_readTold h, sim_87 h, sim_88 h, sim_93 h, sim_99 h, wrm_85_3 h, wrm_85_4 h, sG_M_readPlan_185 h, sG_M_readPlan_180 h hrec89, sG_M_readPlan_177 h hrec89, sG_M_readPlan_140 h hrec89, sG_M_readPlan_131 h, sG_M_readPlan_217 h, sG_M_readPlan_212 h, sG_M_readPlan_190 h, hrec89, Option.bind_some, Option.map_bind, Option.bind_map, Option.map_some, Option.map_none, Option.bind_none, apply_ite (Option.map _), if_true, Function.comp_def, cvM]
  all_goals rfl
def G_M_readPlan_89 (N : Nat)  (x1 : Int32) : Nat → mst → Option (Int32 × mst)
  | 0 => fun _ => none
  | n + 1 => fun  s => GB_M_readPlan_89 N  (G_M_readPlan_89 N  x1 n) x1  s
theorem sG_M_readPlan_89 {h0 : Nat → pm_C} {B : Nat} {D : Nat → pd} {hi z N : Nat} (h : FX D hi)   {x1 : Int32} : ∀ (n : Nat)  (s : mst), F_M_readPlan_89 N  (B + 85) x1 n  (mkM h0 B D hi z s) = (G_M_readPlan_89 N  x1 n  s).map (cvM h0 B D hi z) := by
  intro n
  induction n with
  | zero => intro  s; rfl
  | succ n ih => intro  s; exact sGB_M_readPlan_89 h  ih
def G_M_readPlan (N : Nat) (s : mst)  : Option (Int32 × mst) :=
    (stA 0 (wrI (wrI s 85 3 0) 85 4 (-1)) 88 7 (s.1 85 19) 0).bind fun s1 =>
    (stA 0 s1 93 7 (s.1 85 19) 0).bind fun s2 =>
    (stA 0 s2 99 7 (s.1 85 19) 0).bind fun s3 =>
    (G_M_look N s3 ).bind fun r5 =>
    if r5.1 = 98 then
    ((G_M_number N (wrI r5.2 85 3 ((r5.2.1 85 3) + 1)) 2 8 0 (s.1 85 19) 0).bind fun r7 =>
    if r7.1 = 0 then
    some (0, r7.2)
    else
    ((stA 0 r7.2 87 7 (s.1 85 19) (r7.2.1 85 5)).bind fun s8 =>
    G_M_readPlan_89 N (s.1 85 19) N s8))
    else
    ((G_M_fails N r5.2 (r5.2.1 85 3)).bind fun r22 =>
    if r22.1 = 0 ∨ r22.1 = 1 then some (r22.1, r22.2) else none)
theorem sg_M_readPlan {h0 : Nat → pm_C} {B : Nat} {D : Nat → pd} {hi z N : Nat} (h : FX D hi)  {s : mst} : F_M_readPlan N (mkM h0 B D hi z s) (B + 85)  = (G_M_readPlan N s ).map (cvM h0 B D hi z) := by
  simp only [F_M_readPlan, G_M_readPlan, rdm_85_12 h, rdm_85_18 h, rdm_85_19 h, rdm_85_2 h, rdm_85_3 h, rdm_85_5 h, rdm_85_6 h, rdm_85_7 h, sg_M_fails h, sg_M_look h, sg_M_number h, sg_M_readCable h, sg_M_readTold h, sim_87 h, sim_88 h, sim_93 h, sim_99 h, wrm_85_3 h, wrm_85_4 h, sG_M_readPlan_185 h, sG_M_readPlan_131 h, sG_M_readPlan_217 h, sG_M_readPlan_212 h, sG_M_readPlan_190 h, sG_M_readPlan_89 h, rcm_85 h, Option.bind_some, Option.map_bind, Option.bind_map, Option.map_some, Option.map_none, Option.bind_none, apply_ite (Option.map _), if_true, Function.comp_def, cvM]
  all_goals rfl
def G_M_fault (N : Nat) (s : mst)  : Option (Int32 × mst) :=
    (G_M_readPlan N (wrI s 85 0 0) ).bind fun r2 =>
    some (r2.2.1 85 4, r2.2)
theorem sg_M_fault {h0 : Nat → pm_C} {B : Nat} {D : Nat → pd} {hi z N : Nat} (h : FX D hi)  {s : mst} : F_M_fault N (mkM h0 B D hi z s) (B + 85)  = (G_M_fault N s ).map (cvM h0 B D hi z) := by
  simp only [F_M_fault, G_M_fault, rdm_85_4 h, sg_M_readPlan h, wrm_85_0 h, rcm_85 h, Option.bind_some, Option.map_bind, Option.bind_map, Option.map_some, Option.map_none, Option.bind_none, apply_ite (Option.map _), if_true, Function.comp_def, cvM]
  all_goals rfl
def G_M_plan_21 (N : Nat)   (s : mst) : Option (Int32 × mst) :=
    some ((-1), s)
theorem sG_M_plan_21 {h0 : Nat → pm_C} {B : Nat} {D : Nat → pd} {hi z N : Nat} (h : FX D hi)    {s : mst} : F_M_plan_21 N   (mkM h0 B D hi z s) = (G_M_plan_21 N   s).map (cvM h0 B D hi z) := by
  simp only [F_M_plan_21, G_M_plan_21, rdm_85_19 h, rdm_85_20 h, rdm_85_37 h, rdm_85_44 h, rdm_85_53 h, sg_M_readPlan h, sim_100 h, sim_111 h, sim_118 h, sim_125 h, wrm_85_0 h, wrm_85_19 h, wrm_85_2 h, Option.bind_some, Option.map_bind, Option.bind_map, Option.map_some, Option.map_none, Option.bind_none, apply_ite (Option.map _), if_true, Function.comp_def, cvM]
  all_goals rfl
def G_M_plan_87 (N : Nat)   (s : mst) : Option (Int32 × mst) :=
    some (((wrI s 85 19 ((s.1 85 19) + 1)).1 85 19) - 1, (wrI s 85 19 ((s.1 85 19) + 1)))
theorem sG_M_plan_87 {h0 : Nat → pm_C} {B : Nat} {D : Nat → pd} {hi z N : Nat} (h : FX D hi)    {s : mst} : F_M_plan_87 N  (B + 85) (mkM h0 B D hi z s) = (G_M_plan_87 N   s).map (cvM h0 B D hi z) := by
  simp only [F_M_plan_87, G_M_plan_87, rdm_85_19 h, rdm_85_20 h, rdm_85_37 h, rdm_85_44 h, rdm_85_53 h, sg_M_readPlan h, sim_100 h, sim_111 h, sim_118 h, sim_125 h, wrm_85_0 h, wrm_85_19 h, wrm_85_2 h, sG_M_plan_21 h, Option.bind_some, Option.map_bind, Option.bind_map, Option.map_some, Option.map_none, Option.bind_none, apply_ite (Option.map _), if_true, Function.comp_def, cvM]
  all_goals rfl
def GB_M_plan_60 (N : Nat)  (rec60 : Int32 → mst → Option (Int32 × mst))  (x1 : Int32) (s : mst) : Option (Int32 × mst) :=
    if 10 ≤ x1 then
    G_M_plan_87 N s
    else
    ((stA 0 s 125 70 ((10 * (s.1 85 19)) + x1) (-1)).bind fun s6 =>
    rec60 (x1 + 1) s6)
theorem sGB_M_plan_60 {h0 : Nat → pm_C} {B : Nat} {D : Nat → pd} {hi z N : Nat} (h : FX D hi) {rec60 : Int32 → pm_S → Option (Int32 × pm_S)} {grec60 : Int32 → mst → Option (Int32 × mst)} (hrec60 : ∀ (y1 : Int32) (s : mst), rec60 y1 (mkM h0 B D hi z s) = (grec60 y1 s).map (cvM h0 B D hi z)) {x1 : Int32} {s : mst} : B_M_plan_60 N rec60 (B + 85) x1 (mkM h0 B D hi z s) = (GB_M_plan_60 N grec60 x1 s).map (cvM h0 B D hi z) := by
  simp only [B_M_plan_60, GB_M_plan_60, rdm_85_19 h, rdm_85_20 h, rdm_85_37 h, rdm_85_44 h, rdm_85_53 h, sg_M_readPlan h, sim_100 h, sim_111 h, sim_118 h, sim_125 h, wrm_85_0 h, wrm_85_19 h, wrm_85_2 h, sG_M_plan_21 h, sG_M_plan_87 h, hrec60, Option.bind_some, Option.map_bind, Option.bind_map, Option.map_some, Option.map_none, Option.bind_none, apply_ite (Option.map _), if_true, Function.comp_def, cvM]
  all_goals rfl
def G_M_plan_60 (N : Nat)   : Nat → Int32 → mst → Option (Int32 × mst)
  | 0 => fun _ _ => none
  | n + 1 => fun x1 s => GB_M_plan_60 N  (G_M_plan_60 N   n)  x1 s
theorem sG_M_plan_60 {h0 : Nat → pm_C} {B : Nat} {D : Nat → pd} {hi z N : Nat} (h : FX D hi)    : ∀ (n : Nat) (x1 : Int32) (s : mst), F_M_plan_60 N  (B + 85) n x1 (mkM h0 B D hi z s) = (G_M_plan_60 N   n x1 s).map (cvM h0 B D hi z) := by
  intro n
  induction n with
  | zero => intro x1 s; rfl
  | succ n ih => intro x1 s; exact sGB_M_plan_60 h  ih
def G_M_plan (N : Nat) (s : mst)  : Option (Int32 × mst) :=
    if ((wrI s 85 0 0).1 85 19) = 6 then
    G_M_plan_21 N (wrI s 85 0 0)
    else
    ((G_M_readPlan N (wrI s 85 0 0) ).bind fun r2 =>
    if r2.1 = 0 then
    G_M_plan_21 N r2.2
    else
    ((stA 0 (wrI r2.2 85 2 0) 100 7 ((wrI r2.2 85 2 0).1 85 19) 0).bind fun s3 =>
    (stA 0 s3 111 7 (s3.1 85 19) 0).bind fun s4 =>
    (stA 0 s4 118 7 (s4.1 85 19) 0).bind fun s5 =>
    G_M_plan_60 N  N 0 s5))
theorem sg_M_plan {h0 : Nat → pm_C} {B : Nat} {D : Nat → pd} {hi z N : Nat} (h : FX D hi)  {s : mst} : F_M_plan N (mkM h0 B D hi z s) (B + 85)  = (G_M_plan N s ).map (cvM h0 B D hi z) := by
  simp only [F_M_plan, G_M_plan, rdm_85_19 h, rdm_85_20 h, rdm_85_37 h, rdm_85_44 h, rdm_85_53 h, sg_M_readPlan h, sim_100 h, sim_111 h, sim_118 h, sim_125 h, wrm_85_0 h, wrm_85_19 h, wrm_85_2 h, sG_M_plan_21 h, sG_M_plan_87 h, sG_M_plan_60 h, rcm_85 h, Option.bind_some, Option.map_bind, Option.bind_map, Option.map_some, Option.map_none, Option.bind_none, apply_ite (Option.map _), if_true, Function.comp_def, cvM]
  all_goals rfl
def G_M_isPlan_17 (N : Nat)  (t0 : Int32) (s : mst) : Option (Int32 × mst) :=
    if t0 = 0 ∨ t0 = 1 then some (t0, s) else none
theorem sG_M_isPlan_17 {h0 : Nat → pm_C} {B : Nat} {D : Nat → pd} {hi z N : Nat} (h : FX D hi)   {t0 : Int32} {s : mst} : F_M_isPlan_17 N  t0 (mkM h0 B D hi z s) = (G_M_isPlan_17 N  t0 s).map (cvM h0 B D hi z) := by
  simp only [F_M_isPlan_17, G_M_isPlan_17, rdm_85_19 h, Option.bind_some, Option.map_bind, Option.bind_map, Option.map_some, Option.map_none, Option.bind_none, apply_ite (Option.map _), if_true, Function.comp_def, cvM]
  all_goals rfl
def G_M_isPlan_16 (N : Nat)   (s : mst) : Option (Int32 × mst) :=
    G_M_isPlan_17 N 0 s
theorem sG_M_isPlan_16 {h0 : Nat → pm_C} {B : Nat} {D : Nat → pd} {hi z N : Nat} (h : FX D hi)    {s : mst} : F_M_isPlan_16 N   (mkM h0 B D hi z s) = (G_M_isPlan_16 N   s).map (cvM h0 B D hi z) := by
  simp only [F_M_isPlan_16, G_M_isPlan_16, rdm_85_19 h, sG_M_isPlan_17 h, Option.bind_some, Option.map_bind, Option.bind_map, Option.map_some, Option.map_none, Option.bind_none, apply_ite (Option.map _), if_true, Function.comp_def, cvM]
  all_goals rfl
def G_M_isPlan (N : Nat) (s : mst) (p0 : Int32) : Option (Int32 × mst) :=
    if p0 < 0 then
    G_M_isPlan_16 N s
    else
    (if (s.1 85 19) ≤ p0 then
    G_M_isPlan_16 N s
    else
    G_M_isPlan_17 N 1 s)
theorem sg_M_isPlan {h0 : Nat → pm_C} {B : Nat} {D : Nat → pd} {hi z N : Nat} (h : FX D hi) {p0 : Int32} {s : mst} : F_M_isPlan N (mkM h0 B D hi z s) (B + 85) p0 = (G_M_isPlan N s p0).map (cvM h0 B D hi z) := by
  simp only [F_M_isPlan, G_M_isPlan, rdm_85_19 h, sG_M_isPlan_17 h, sG_M_isPlan_16 h, rcm_85 h, Option.bind_some, Option.map_bind, Option.bind_map, Option.map_some, Option.map_none, Option.bind_none, apply_ite (Option.map _), if_true, Function.comp_def, cvM]
  all_goals rfl
def G_M_isCable_29 (N : Nat)  (t0 : Int32) (s : mst) : Option (Int32 × mst) :=
    if t0 = 0 ∨ t0 = 1 then some (t0, s) else none
theorem sG_M_isCable_29 {h0 : Nat → pm_C} {B : Nat} {D : Nat → pd} {hi z N : Nat} (h : FX D hi)   {t0 : Int32} {s : mst} : F_M_isCable_29 N  t0 (mkM h0 B D hi z s) = (G_M_isCable_29 N  t0 s).map (cvM h0 B D hi z) := by
  simp only [F_M_isCable_29, G_M_isCable_29, aim_88 h, rdm_85_7 h, sg_M_isIn h, sg_M_isPlan h, Option.bind_some, Option.map_bind, Option.bind_map, Option.map_some, Option.map_none, Option.bind_none, apply_ite (Option.map _), if_true, Function.comp_def, cvM]
  all_goals rfl
def G_M_isCable_28 (N : Nat)   (s : mst) : Option (Int32 × mst) :=
    G_M_isCable_29 N 0 s
theorem sG_M_isCable_28 {h0 : Nat → pm_C} {B : Nat} {D : Nat → pd} {hi z N : Nat} (h : FX D hi)    {s : mst} : F_M_isCable_28 N   (mkM h0 B D hi z s) = (G_M_isCable_28 N   s).map (cvM h0 B D hi z) := by
  simp only [F_M_isCable_28, G_M_isCable_28, aim_88 h, rdm_85_7 h, sg_M_isIn h, sg_M_isPlan h, sG_M_isCable_29 h, Option.bind_some, Option.map_bind, Option.bind_map, Option.map_some, Option.map_none, Option.bind_none, apply_ite (Option.map _), if_true, Function.comp_def, cvM]
  all_goals rfl
def G_M_isCable (N : Nat) (s : mst) (p0 : Int32) (p1 : Int32) : Option (Int32 × mst) :=
    (G_M_isPlan N s p0).bind fun r2 =>
    if r2.1 = 0 then
    G_M_isCable_28 N r2.2
    else
    ((rdA r2.2 88 7 p0).bind fun v3 =>
    (G_M_isIn N r2.2 p1 0 (v3 - 1)).bind fun r5 =>
    if r5.1 = 0 then
    G_M_isCable_28 N r5.2
    else
    G_M_isCable_29 N 1 r5.2)
theorem sg_M_isCable {h0 : Nat → pm_C} {B : Nat} {D : Nat → pd} {hi z N : Nat} (h : FX D hi) {p0 : Int32} {p1 : Int32} {s : mst} : F_M_isCable N (mkM h0 B D hi z s) (B + 85) p0 p1 = (G_M_isCable N s p0 p1).map (cvM h0 B D hi z) := by
  simp only [F_M_isCable, G_M_isCable, aim_88 h, rdm_85_7 h, sg_M_isIn h, sg_M_isPlan h, sG_M_isCable_29 h, sG_M_isCable_28 h, rcm_85 h, Option.bind_some, Option.map_bind, Option.bind_map, Option.map_some, Option.map_none, Option.bind_none, apply_ite (Option.map _), if_true, Function.comp_def, cvM]
  all_goals rfl
def G_M_cable_95 (N : Nat)  (t0 : Int32) (s : mst) : Option (Int32 × mst) :=
    some (t0, s)
theorem sG_M_cable_95 {h0 : Nat → pm_C} {B : Nat} {D : Nat → pd} {hi z N : Nat} (h : FX D hi)   {t0 : Int32} {s : mst} : F_M_cable_95 N  t0 (mkM h0 B D hi z s) = (G_M_cable_95 N  t0 s).map (cvM h0 B D hi z) := by
  simp only [F_M_cable_95, G_M_cable_95, aim_89 h, aim_90 h, aim_91 h, aim_92 h, rdm_85_0 h, rdm_85_10 h, rdm_85_11 h, rdm_85_8 h, rdm_85_9 h, sg_M_isCable h, sg_M_isIn h, wrm_85_0 h, Option.bind_some, Option.map_bind, Option.bind_map, Option.map_some, Option.map_none, Option.bind_none, apply_ite (Option.map _), if_true, Function.comp_def, cvM]
  all_goals rfl
def G_M_cable_24 (N : Nat)  (x1 : Int32) (x2 : Int32) (x3 : Int32) (t0 : Int32) (s : mst) : Option (Int32 × mst) :=
    if ((wrI s 85 0 t0).1 85 0) ≤ 0 then
    (if x3 = 0 then
    ((rdA (wrI s 85 0 t0) 89 49 ((7 * x1) + x2)).bind fun v3 =>
    G_M_cable_95 N v3 (wrI s 85 0 t0))
    else
    (if x3 = 1 then
    ((rdA (wrI s 85 0 t0) 90 49 ((7 * x1) + x2)).bind fun v4 =>
    G_M_cable_95 N v4 (wrI s 85 0 t0))
    else
    (if x3 = 2 then
    ((rdA (wrI s 85 0 t0) 91 49 ((7 * x1) + x2)).bind fun v5 =>
    G_M_cable_95 N v5 (wrI s 85 0 t0))
    else
    ((rdA (wrI s 85 0 t0) 92 49 ((7 * x1) + x2)).bind fun v6 =>
    G_M_cable_95 N v6 (wrI s 85 0 t0)))))
    else
    some (0, (wrI s 85 0 t0))
theorem sG_M_cable_24 {h0 : Nat → pm_C} {B : Nat} {D : Nat → pd} {hi z N : Nat} (h : FX D hi)   {x1 : Int32} {x2 : Int32} {x3 : Int32} {t0 : Int32} {s : mst} : F_M_cable_24 N  (B + 85) x1 x2 x3 t0 (B + 85) (mkM h0 B D hi z s) = (G_M_cable_24 N  x1 x2 x3 t0 s).map (cvM h0 B D hi z) := by
  simp only [F_M_cable_24, G_M_cable_24, aim_89 h, aim_90 h, aim_91 h, aim_92 h, rdm_85_0 h, rdm_85_10 h, rdm_85_11 h, rdm_85_8 h, rdm_85_9 h, sg_M_isCable h, sg_M_isIn h, wrm_85_0 h, sG_M_cable_95 h, Option.bind_some, Option.map_bind, Option.bind_map, Option.map_some, Option.map_none, Option.bind_none, apply_ite (Option.map _), if_true, Function.comp_def, cvM]
  all_goals rfl
def G_M_cable_23 (N : Nat)  (x1 : Int32) (x2 : Int32) (x3 : Int32) (s : mst) : Option (Int32 × mst) :=
    G_M_cable_24 N x1 x2 x3 1 s
theorem sG_M_cable_23 {h0 : Nat → pm_C} {B : Nat} {D : Nat → pd} {hi z N : Nat} (h : FX D hi)   {x1 : Int32} {x2 : Int32} {x3 : Int32} {s : mst} : F_M_cable_23 N  (B + 85) x1 x2 x3 (B + 85) (mkM h0 B D hi z s) = (G_M_cable_23 N  x1 x2 x3 s).map (cvM h0 B D hi z) := by
  simp only [F_M_cable_23, G_M_cable_23, aim_89 h, aim_90 h, aim_91 h, aim_92 h, rdm_85_0 h, rdm_85_10 h, rdm_85_11 h, rdm_85_8 h, rdm_85_9 h, sg_M_isCable h, sg_M_isIn h, wrm_85_0 h, sG_M_cable_95 h, sG_M_cable_24 h, Option.bind_some, Option.map_bind, Option.bind_map, Option.map_some, Option.map_none, Option.bind_none, apply_ite (Option.map _), if_true, Function.comp_def, cvM]
  all_goals rfl
def G_M_cable (N : Nat) (s : mst) (p0 : Int32) (p1 : Int32) (p2 : Int32) : Option (Int32 × mst) :=
    (G_M_isCable N s p0 p1).bind fun r2 =>
    if r2.1 = 0 then
    G_M_cable_23 N p0 p1 p2 r2.2
    else
    ((G_M_isIn N r2.2 p2 0 3).bind fun r8 =>
    if r8.1 = 0 then
    G_M_cable_23 N p0 p1 p2 r8.2
    else
    G_M_cable_24 N p0 p1 p2 0 r8.2)
theorem sg_M_cable {h0 : Nat → pm_C} {B : Nat} {D : Nat → pd} {hi z N : Nat} (h : FX D hi) {p0 : Int32} {p1 : Int32} {p2 : Int32} {s : mst} : F_M_cable N (mkM h0 B D hi z s) (B + 85) p0 p1 p2 = (G_M_cable N s p0 p1 p2).map (cvM h0 B D hi z) := by
  simp only [F_M_cable, G_M_cable, aim_89 h, aim_90 h, aim_91 h, aim_92 h, rdm_85_0 h, rdm_85_10 h, rdm_85_11 h, rdm_85_8 h, rdm_85_9 h, sg_M_isCable h, sg_M_isIn h, wrm_85_0 h, sG_M_cable_95 h, sG_M_cable_24 h, sG_M_cable_23 h, rcm_85 h, Option.bind_some, Option.map_bind, Option.bind_map, Option.map_some, Option.map_none, Option.bind_none, apply_ite (Option.map _), if_true, Function.comp_def, cvM]
  all_goals rfl
