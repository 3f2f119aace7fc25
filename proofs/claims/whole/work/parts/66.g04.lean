def G_M_want_20 (N : Nat)   (s : mst) : Option (Int32 × mst) :=
    some (0, s)
theorem sG_M_want_20 {h0 : Nat → pm_C} {B : Nat} {D : Nat → pd} {hi z N : Nat} (h : FX D hi)    {s : mst} : F_M_want_20 N   (mkM h0 B D hi z s) = (G_M_want_20 N   s).map (cvM h0 B D hi z) := by
  simp only [F_M_want_20, G_M_want_20, aim_125 h, rdm_85_53 h, sg_M_hangsAt h, sg_M_isNumberOfHouse h, sg_M_isPair h, sg_M_isPlan h, sg_M_lay h, sim_125 h, wrm_85_0 h, Option.bind_some, Option.map_bind, Option.bind_map, Option.map_some, Option.map_none, Option.bind_none, apply_ite (Option.map _), if_true, Function.comp_def, cvM]
  all_goals rfl
def G_M_want_61 (N : Nat)   (s : mst) : Option (Int32 × mst) :=
    some (0, s)
theorem sG_M_want_61 {h0 : Nat → pm_C} {B : Nat} {D : Nat → pd} {hi z N : Nat} (h : FX D hi)    {s : mst} : F_M_want_61 N   (mkM h0 B D hi z s) = (G_M_want_61 N   s).map (cvM h0 B D hi z) := by
  simp only [F_M_want_61, G_M_want_61, aim_125 h, rdm_85_53 h, sg_M_hangsAt h, sg_M_isNumberOfHouse h, sg_M_isPair h, sg_M_isPlan h, sg_M_lay h, sim_125 h, wrm_85_0 h, sG_M_want_20 h, Option.bind_some, Option.map_bind, Option.bind_map, Option.map_some, Option.map_none, Option.bind_none, apply_ite (Option.map _), if_true, Function.comp_def, cvM]
  all_goals rfl
def G_M_want_135 (N : Nat)  (x1 : Int32) (x2 : Int32) (x3 : Int32) (s : mst) : Option (Int32 × mst) :=
    (stA 0 s 125 70 ((10 * x1) + x2) x3).bind fun s8 =>
    some (1, s8)
theorem sG_M_want_135 {h0 : Nat → pm_C} {B : Nat} {D : Nat → pd} {hi z N : Nat} (h : FX D hi)   {x1 : Int32} {x2 : Int32} {x3 : Int32} {s : mst} : F_M_want_135 N  (B + 85) x1 x2 x3 (mkM h0 B D hi z s) = (G_M_want_135 N  x1 x2 x3 s).map (cvM h0 B D hi z) := by
  simp only [F_M_want_135, G_M_want_135, aim_125 h, rdm_85_53 h, sg_M_hangsAt h, sg_M_isNumberOfHouse h, sg_M_isPair h, sg_M_isPlan h, sg_M_lay h, sim_125 h, wrm_85_0 h, sG_M_want_20 h, sG_M_want_61 h, Option.bind_some, Option.map_bind, Option.bind_map, Option.map_some, Option.map_none, Option.bind_none, apply_ite (Option.map _), if_true, Function.comp_def, cvM]
  all_goals rfl
def G_M_want_129 (N : Nat) (rec66 : Int32 → mst → Option (Int32 × mst)) (x1 : Int32) (x2 : Int32) (x3 : Int32) (x4 : Int32) (x5 : Int32) (s : mst) : Option (Int32 × mst) :=
    rec66 (x5 + 1) s
theorem sG_M_want_129 {h0 : Nat → pm_C} {B : Nat} {D : Nat → pd} {hi z N : Nat} (h : FX D hi) {rec66 : Int32 → pm_S → Option (Int32 × pm_S)} {grec66 : Int32 → mst → Option (Int32 × mst)} (hrec66 : ∀ (y1 : Int32) (s : mst), rec66 y1 (mkM h0 B D hi z s) = (grec66 y1 s).map (cvM h0 B D hi z)) {x1 : Int32} {x2 : Int32} {x3 : Int32} {x4 : Int32} {x5 : Int32} {s : mst} : F_M_want_129 N rec66 (B + 85) x1 x2 x3 x4 x5 (mkM h0 B D hi z s) = (G_M_want_129 N grec66 x1 x2 x3 x4 x5 s).map (cvM h0 B D hi z) := by
  simp only [F_M_want_129, G_M_want_129, aim_125 h, rdm_85_53 h, sg_M_hangsAt h, sg_M_isNumberOfHouse h, sg_M_isPair h, sg_M_isPlan h, sg_M_lay h, sim_125 h, wrm_85_0 h, sG_M_want_20 h, sG_M_want_61 h, sG_M_want_135 h, hrec66, Option.bind_some, Option.map_bind, Option.bind_map, Option.map_some, Option.map_none, Option.bind_none, apply_ite (Option.map _), if_true, Function.comp_def, cvM]
  all_goals rfl
def G_M_want_127 (N : Nat)   (s : mst) : Option (Int32 × mst) :=
    some (0, s)
theorem sG_M_want_127 {h0 : Nat → pm_C} {B : Nat} {D : Nat → pd} {hi z N : Nat} (h : FX D hi)    {s : mst} : F_M_want_127 N   (mkM h0 B D hi z s) = (G_M_want_127 N   s).map (cvM h0 B D hi z) := by
  simp only [F_M_want_127, G_M_want_127, aim_125 h, rdm_85_53 h, sg_M_hangsAt h, sg_M_isNumberOfHouse h, sg_M_isPair h, sg_M_isPlan h, sg_M_lay h, sim_125 h, wrm_85_0 h, sG_M_want_20 h, sG_M_want_61 h, sG_M_want_135 h, Option.bind_some, Option.map_bind, Option.bind_map, Option.map_some, Option.map_none, Option.bind_none, apply_ite (Option.map _), if_true, Function.comp_def, cvM]
  all_goals rfl
def GB_M_want_66 (N : Nat)  (rec66 : Int32 → mst → Option (Int32 × mst)) (x1 : Int32) (x2 : Int32) (x3 : Int32) (x4 : Int32) (x5 : Int32) (s : mst) : Option (Int32 × mst) :=
    if 10 ≤ x5 then
    G_M_want_135 N x1 x2 x3 s
    else
    ((G_M_hangsAt N s x5).bind fun r10 =>
    if x3 = (-1) then
    G_M_want_129 N rec66 x1 x2 x3 x4 x5 r10.2
    else
    (if x5 = x2 then
    G_M_want_129 N rec66 x1 x2 x3 x4 x5 r10.2
    else
    (if r10.1 = (-1) then
    G_M_want_129 N rec66 x1 x2 x3 x4 x5 r10.2
    else
    (if (r10.1 / 6) = (x4 / 6) then
    ((rdA r10.2 125 70 ((10 * x1) + x5)).bind fun v11 =>
    if v11 = x3 then
    G_M_want_127 N r10.2
    else
    G_M_want_129 N rec66 x1 x2 x3 x4 x5 r10.2)
    else
    G_M_want_129 N rec66 x1 x2 x3 x4 x5 r10.2))))
theorem sGB_M_want_66 {h0 : Nat → pm_C} {B : Nat} {D : Nat → pd} {hi z N : Nat} (h : FX D hi) {rec66 : Int32 → pm_S → Option (Int32 × pm_S)} {grec66 : Int32 → mst → Option (Int32 × mst)} (hrec66 : ∀ (y1 : Int32) (s : mst), rec66 y1 (mkM h0 B D hi z s) = (grec66 y1 s).map (cvM h0 B D hi z)) {x1 : Int32} {x2 : Int32} {x3 : Int32} {x4 : Int32} {x5 : Int32} {s : mst} : B_M_want_66 N rec66 (B + 85) x1 x2 x3 x4 x5 (mkM h0 B D hi z s) = (GB_M_want_66 N grec66 x1 x2 x3 x4 x5 s).map (cvM h0 B D hi z) := by
  simp only [B_M_want_66, GB_M_want_66, aim_125 h, rdm_85_53 h, sg_M_hangsAt h, sg_M_isNumberOfHouse h, sg_M_isPair h, sg_M_isPlan h, sg_M_lay h, sim_125 h, wrm_85_0 h, sG_M_want_20 h, sG_M_want_61 h, sG_M_want_135 h, sG_M_want_129 h hrec66, sG_M_want_127 h, hrec66, Option.bind_some, Option.map_bind, Option.bind_map, Option.map_some, Option.map_none, Option.bind_none, apply_ite (Option.map _), if_true, Function.comp_def, cvM]
  all_goals rfl
def G_M_want_66 (N : Nat)  (x1 : Int32) (x2 : Int32) (x3 : Int32) (x4 : Int32) : Nat → Int32 → mst → Option (Int32 × mst)
  | 0 => fun _ _ => none
  | n + 1 => fun x5 s => GB_M_want_66 N  (G_M_want_66 N  x1 x2 x3 x4 n) x1 x2 x3 x4 x5 s
theorem sG_M_want_66 {h0 : Nat → pm_C} {B : Nat} {D : Nat → pd} {hi z N : Nat} (h : FX D hi)   {x1 : Int32} {x2 : Int32} {x3 : Int32} {x4 : Int32} : ∀ (n : Nat) (x5 : Int32) (s : mst), F_M_want_66 N  (B + 85) x1 x2 x3 x4 n x5 (mkM h0 B D hi z s) = (G_M_want_66 N  x1 x2 x3 x4 n x5 s).map (cvM h0 B D hi z) := by
  intro n
  induction n with
  | zero => intro x5 s; rfl
  | succ n ih => intro x5 s; exact sGB_M_want_66 h  ih
def G_M_want_63 (N : Nat)  (x1 : Int32) (x2 : Int32) (x3 : Int32) (x4 : Int32) (s : mst) : Option (Int32 × mst) :=
    G_M_want_66 N x1 x2 x3 x4 N 0 s
theorem sG_M_want_63 {h0 : Nat → pm_C} {B : Nat} {D : Nat → pd} {hi z N : Nat} (h : FX D hi)   {x1 : Int32} {x2 : Int32} {x3 : Int32} {x4 : Int32} {s : mst} : F_M_want_63 N  (B + 85) x1 x2 x3 x4 (mkM h0 B D hi z s) = (G_M_want_63 N  x1 x2 x3 x4 s).map (cvM h0 B D hi z) := by
  simp only [F_M_want_63, G_M_want_63, aim_125 h, rdm_85_53 h, sg_M_hangsAt h, sg_M_isNumberOfHouse h, sg_M_isPair h, sg_M_isPlan h, sg_M_lay h, sim_125 h, wrm_85_0 h, sG_M_want_20 h, sG_M_want_61 h, sG_M_want_135 h, sG_M_want_127 h, sG_M_want_66 h, Option.bind_some, Option.map_bind, Option.bind_map, Option.map_some, Option.map_none, Option.bind_none, apply_ite (Option.map _), if_true, Function.comp_def, cvM]
  all_goals rfl
def G_M_want (N : Nat) (s : mst) (p0 : Int32) (p1 : Int32) (p2 : Int32) : Option (Int32 × mst) :=
    (G_M_isPlan N (wrI s 85 0 0) p0).bind fun r2 =>
    if r2.1 = 0 then
    G_M_want_20 N r2.2
    else
    ((G_M_isNumberOfHouse N r2.2 p1).bind fun r4 =>
    if r4.1 = 0 then
    G_M_want_20 N r4.2
    else
    ((G_M_lay N r4.2 p0 0 0).bind fun s5 =>
    (G_M_hangsAt N s5 p1).bind fun r7 =>
    if r7.1 = (-1) then
    G_M_want_61 N r7.2
    else
    (if p2 = (-1) then
    G_M_want_63 N p0 p1 p2 r7.1 r7.2
    else
    ((G_M_isPair N r7.2 p0 (r7.1 / 6) p2).bind fun r13 =>
    if r13.1 = 0 then
    G_M_want_61 N r13.2
    else
    G_M_want_63 N p0 p1 p2 r7.1 r13.2))))
theorem sg_M_want {h0 : Nat → pm_C} {B : Nat} {D : Nat → pd} {hi z N : Nat} (h : FX D hi) {p0 : Int32} {p1 : Int32} {p2 : Int32} {s : mst} : F_M_want N (mkM h0 B D hi z s) (B + 85) p0 p1 p2 = (G_M_want N s p0 p1 p2).map (cvM h0 B D hi z) := by
  simp only [F_M_want, G_M_want, aim_125 h, rdm_85_53 h, sg_M_hangsAt h, sg_M_isNumberOfHouse h, sg_M_isPair h, sg_M_isPlan h, sg_M_lay h, sim_125 h, wrm_85_0 h, sG_M_want_20 h, sG_M_want_61 h, sG_M_want_135 h, sG_M_want_127 h, sG_M_want_66 h, sG_M_want_63 h, rcm_85 h, Option.bind_some, Option.map_bind, Option.bind_map, Option.map_some, Option.map_none, Option.bind_none, apply_ite (Option.map _), if_true, Function.comp_def, cvM]
  all_goals rfl
def G_M_pairOf_31 (N : Nat)   (s : mst) : Option (Int32 × mst) :=
    some ((-1), s)
theorem sG_M_pairOf_31 {h0 : Nat → pm_C} {B : Nat} {D : Nat → pd} {hi z N : Nat} (h : FX D hi)    {s : mst} : F_M_pairOf_31 N   (mkM h0 B D hi z s) = (G_M_pairOf_31 N   s).map (cvM h0 B D hi z) := by
  simp only [F_M_pairOf_31, G_M_pairOf_31, aim_107 h, rdm_85_27 h, Option.bind_some, Option.map_bind, Option.bind_map, Option.map_some, Option.map_none, Option.bind_none, apply_ite (Option.map _), if_true, Function.comp_def, cvM]
  all_goals rfl
def G_M_pairOf_23 (N : Nat)  (x3 : Int32) (s : mst) : Option (Int32 × mst) :=
    some (x3, s)
theorem sG_M_pairOf_23 {h0 : Nat → pm_C} {B : Nat} {D : Nat → pd} {hi z N : Nat} (h : FX D hi)   {x3 : Int32} {s : mst} : F_M_pairOf_23 N  x3 (mkM h0 B D hi z s) = (G_M_pairOf_23 N  x3 s).map (cvM h0 B D hi z) := by
  simp only [F_M_pairOf_23, G_M_pairOf_23, aim_107 h, rdm_85_27 h, sG_M_pairOf_31 h, Option.bind_some, Option.map_bind, Option.bind_map, Option.map_some, Option.map_none, Option.bind_none, apply_ite (Option.map _), if_true, Function.comp_def, cvM]
  all_goals rfl
def GB_M_pairOf_2 (N : Nat)  (rec2 : Int32 → mst → Option (Int32 × mst)) (x1 : Int32) (x2 : Int32) (x3 : Int32) (s : mst) : Option (Int32 × mst) :=
    if 6 ≤ x3 then
    G_M_pairOf_31 N s
    else
    ((rdA s 107 42 ((6 * x1) + x3)).bind fun v1 =>
    if v1 = x2 then
    G_M_pairOf_23 N x3 s
    else
    rec2 (x3 + 1) s)
theorem sGB_M_pairOf_2 {h0 : Nat → pm_C} {B : Nat} {D : Nat → pd} {hi z N : Nat} (h : FX D hi) {rec2 : Int32 → pm_S → Option (Int32 × pm_S)} {grec2 : Int32 → mst → Option (Int32 × mst)} (hrec2 : ∀ (y1 : Int32) (s : mst), rec2 y1 (mkM h0 B D hi z s) = (grec2 y1 s).map (cvM h0 B D hi z)) {x1 : Int32} {x2 : Int32} {x3 : Int32} {s : mst} : B_M_pairOf_2 N rec2 (B + 85) x1 x2 x3 (mkM h0 B D hi z s) = (GB_M_pairOf_2 N grec2 x1 x2 x3 s).map (cvM h0 B D hi z) := by
  simp only [B_M_pairOf_2, GB_M_pairOf_2, aim_107 h, rdm_85_27 h, sG_M_pairOf_31 h, sG_M_pairOf_23 h, hrec2, Option.bind_some, Option.map_bind, Option.bind_map, Option.map_some, Option.map_none, Option.bind_none, apply_ite (Option.map _), if_true, Function.comp_def, cvM]
  all_goals rfl
def G_M_pairOf_2 (N : Nat)  (x1 : Int32) (x2 : Int32) : Nat → Int32 → mst → Option (Int32 × mst)
  | 0 => fun _ _ => none
  | n + 1 => fun x3 s => GB_M_pairOf_2 N  (G_M_pairOf_2 N  x1 x2 n) x1 x2 x3 s
theorem sG_M_pairOf_2 {h0 : Nat → pm_C} {B : Nat} {D : Nat → pd} {hi z N : Nat} (h : FX D hi)   {x1 : Int32} {x2 : Int32} : ∀ (n : Nat) (x3 : Int32) (s : mst), F_M_pairOf_2 N  (B + 85) x1 x2 n x3 (mkM h0 B D hi z s) = (G_M_pairOf_2 N  x1 x2 n x3 s).map (cvM h0 B D hi z) := by
  intro n
  induction n with
  | zero => intro x3 s; rfl
  | succ n ih => intro x3 s; exact sGB_M_pairOf_2 h  ih
def G_M_pairOf (N : Nat) (s : mst) (p0 : Int32) (p1 : Int32) : Option (Int32 × mst) :=
    G_M_pairOf_2 N p0 p1 N 0 s
theorem sg_M_pairOf {h0 : Nat → pm_C} {B : Nat} {D : Nat → pd} {hi z N : Nat} (h : FX D hi) {p0 : Int32} {p1 : Int32} {s : mst} : F_M_pairOf N (mkM h0 B D hi z s) (B + 85) p0 p1 = (G_M_pairOf N s p0 p1).map (cvM h0 B D hi z) := by
  simp only [F_M_pairOf, G_M_pairOf, aim_107 h, rdm_85_27 h, sG_M_pairOf_31 h, sG_M_pairOf_23 h, sG_M_pairOf_2 h, rcm_85 h, Option.bind_some, Option.map_bind, Option.bind_map, Option.map_some, Option.map_none, Option.bind_none, apply_ite (Option.map _), if_true, Function.comp_def, cvM]
  all_goals rfl
def G_M_isAstray_45 (N : Nat)  (t0 : Int32) (s : mst) : Option (Int32 × mst) :=
    if t0 = 0 ∨ t0 = 1 then some (t0, s) else none
theorem sG_M_isAstray_45 {h0 : Nat → pm_C} {B : Nat} {D : Nat → pd} {hi z N : Nat} (h : FX D hi)   {t0 : Int32} {s : mst} : F_M_isAstray_45 N  t0 (mkM h0 B D hi z s) = (G_M_isAstray_45 N  t0 s).map (cvM h0 B D hi z) := by
  simp only [F_M_isAstray_45, G_M_isAstray_45, aim_125 h, rdm_85_29 h, rdm_85_53 h, sg_M_pairOf h, Option.bind_some, Option.map_bind, Option.bind_map, Option.map_some, Option.map_none, Option.bind_none, apply_ite (Option.map _), if_true, Function.comp_def, cvM]
  all_goals rfl
def G_M_isAstray_44 (N : Nat)   (s : mst) : Option (Int32 × mst) :=
    G_M_isAstray_45 N 0 s
theorem sG_M_isAstray_44 {h0 : Nat → pm_C} {B : Nat} {D : Nat → pd} {hi z N : Nat} (h : FX D hi)    {s : mst} : F_M_isAstray_44 N   (mkM h0 B D hi z s) = (G_M_isAstray_44 N   s).map (cvM h0 B D hi z) := by
  simp only [F_M_isAstray_44, G_M_isAstray_44, aim_125 h, rdm_85_29 h, rdm_85_53 h, sg_M_pairOf h, sG_M_isAstray_45 h, Option.bind_some, Option.map_bind, Option.bind_map, Option.map_some, Option.map_none, Option.bind_none, apply_ite (Option.map _), if_true, Function.comp_def, cvM]
  all_goals rfl
def G_M_isAstray (N : Nat) (s : mst) (p0 : Int32) (p1 : Int32) : Option (Int32 × mst) :=
    (rdA s 125 70 ((10 * (s.1 85 29)) + p1)).bind fun v1 =>
    if v1 = (-1) then
    G_M_isAstray_44 N s
    else
    ((G_M_pairOf N s p0 p1).bind fun r3 =>
    if r3.1 = (-1) then
    G_M_isAstray_44 N r3.2
    else
    ((G_M_pairOf N r3.2 p0 p1).bind fun r5 =>
    if r5.1 = v1 then
    G_M_isAstray_44 N r5.2
    else
    G_M_isAstray_45 N 1 r5.2))
theorem sg_M_isAstray {h0 : Nat → pm_C} {B : Nat} {D : Nat → pd} {hi z N : Nat} (h : FX D hi) {p0 : Int32} {p1 : Int32} {s : mst} : F_M_isAstray N (mkM h0 B D hi z s) (B + 85) p0 p1 = (G_M_isAstray N s p0 p1).map (cvM h0 B D hi z) := by
  simp only [F_M_isAstray, G_M_isAstray, aim_125 h, rdm_85_29 h, rdm_85_53 h, sg_M_pairOf h, sG_M_isAstray_45 h, sG_M_isAstray_44 h, rcm_85 h, Option.bind_some, Option.map_bind, Option.bind_map, Option.map_some, Option.map_none, Option.bind_none, apply_ite (Option.map _), if_true, Function.comp_def, cvM]
  all_goals rfl
def G_M_isFree_53 (N : Nat)  (t0 : Int32) (s : mst) : Option (Int32 × mst) :=
    if t0 = 0 ∨ t0 = 1 then some (t0, s) else none
theorem sG_M_isFree_53 {h0 : Nat → pm_C} {B : Nat} {D : Nat → pd} {hi z N : Nat} (h : FX D hi)   {t0 : Int32} {s : mst} : F_M_isFree_53 N  t0 (mkM h0 B D hi z s) = (G_M_isFree_53 N  t0 s).map (cvM h0 B D hi z) := by
  simp only [F_M_isFree_53, G_M_isFree_53, aim_107 h, aim_126 h, aim_91 h, rdm_85_10 h, rdm_85_27 h, rdm_85_29 h, rdm_85_54 h, sg_M_isIn h, Option.bind_some, Option.map_bind, Option.bind_map, Option.map_some, Option.map_none, Option.bind_none, apply_ite (Option.map _), if_true, Function.comp_def, cvM]
  all_goals rfl
def G_M_isFree_52 (N : Nat)   (s : mst) : Option (Int32 × mst) :=
    G_M_isFree_53 N 0 s
theorem sG_M_isFree_52 {h0 : Nat → pm_C} {B : Nat} {D : Nat → pd} {hi z N : Nat} (h : FX D hi)    {s : mst} : F_M_isFree_52 N   (mkM h0 B D hi z s) = (G_M_isFree_52 N   s).map (cvM h0 B D hi z) := by
  simp only [F_M_isFree_52, G_M_isFree_52, aim_107 h, aim_126 h, aim_91 h, rdm_85_10 h, rdm_85_27 h, rdm_85_29 h, rdm_85_54 h, sg_M_isIn h, sG_M_isFree_53 h, Option.bind_some, Option.map_bind, Option.bind_map, Option.map_some, Option.map_none, Option.bind_none, apply_ite (Option.map _), if_true, Function.comp_def, cvM]
  all_goals rfl
def G_M_isFree (N : Nat) (s : mst) (p0 : Int32) (p1 : Int32) : Option (Int32 × mst) :=
    (rdA s 91 49 ((7 * (s.1 85 29)) + p0)).bind fun v1 =>
    (G_M_isIn N s p1 0 (v1 - 1)).bind fun r3 =>
    if r3.1 = 0 then
    G_M_isFree_52 N r3.2
    else
    ((rdA r3.2 126 6 p1).bind fun v4 =>
    if v4 = 0 then
    G_M_isFree_52 N r3.2
    else
    ((rdA r3.2 107 42 ((6 * p0) + p1)).bind fun v5 =>
    if v5 = (-1) then
    G_M_isFree_53 N 1 r3.2
    else
    G_M_isFree_52 N r3.2))
theorem sg_M_isFree {h0 : Nat → pm_C} {B : Nat} {D : Nat → pd} {hi z N : Nat} (h : FX D hi) {p0 : Int32} {p1 : Int32} {s : mst} : F_M_isFree N (mkM h0 B D hi z s) (B + 85) p0 p1 = (G_M_isFree N s p0 p1).map (cvM h0 B D hi z) := by
  simp only [F_M_isFree, G_M_isFree, aim_107 h, aim_126 h, aim_91 h, rdm_85_10 h, rdm_85_27 h, rdm_85_29 h, rdm_85_54 h, sg_M_isIn h, sG_M_isFree_53 h, sG_M_isFree_52 h, rcm_85 h, Option.bind_some, Option.map_bind, Option.bind_map, Option.map_some, Option.map_none, Option.bind_none, apply_ite (Option.map _), if_true, Function.comp_def, cvM]
  all_goals rfl
def G_M_goes (N : Nat) (s : mst) (p0 : Int32) (p1 : Int32) (p2 : Int32) : Option mst :=
    (G_M_unhang N s p1).bind fun s1 =>
    (stA 0 s1 107 42 ((6 * p0) + p2) p1).bind fun s2 =>
    (stA 0 s2 128 26 (s2.1 85 57) ((8 * p1) + p2)).bind fun s3 =>
    some (wrI s3 85 57 ((s3.1 85 57) + 1))
theorem sg_M_goes {h0 : Nat → pm_C} {B : Nat} {D : Nat → pd} {hi z N : Nat} (h : FX D hi) {p0 : Int32} {p1 : Int32} {p2 : Int32} {s : mst} : F_M_goes N (mkM h0 B D hi z s) (B + 85) p0 p1 p2 = (G_M_goes N s p0 p1 p2).map (mkM h0 B D hi z) := by
  simp only [F_M_goes, G_M_goes, rdm_85_27 h, rdm_85_56 h, rdm_85_57 h, sg_M_unhang h, sim_107 h, sim_128 h, wrm_85_57 h, rcm_85 h, Option.bind_some, Option.map_bind, Option.bind_map, Option.map_some, Option.map_none, Option.bind_none, apply_ite (Option.map _), if_true, Function.comp_def, cvM]
  all_goals rfl
def G_M_goesHome_70 (N : Nat)   (s : mst) : Option (Int32 × mst) :=
    some (0, s)
theorem sG_M_goesHome_70 {h0 : Nat → pm_C} {B : Nat} {D : Nat → pd} {hi z N : Nat} (h : FX D hi)    {s : mst} : F_M_goesHome_70 N   (mkM h0 B D hi z s) = (G_M_goesHome_70 N   s).map (cvM h0 B D hi z) := by
  simp only [F_M_goesHome_70, G_M_goesHome_70, aim_125 h, rdm_85_29 h, rdm_85_53 h, sg_M_goes h, sg_M_isAstray h, sg_M_isFree h, Option.bind_some, Option.map_bind, Option.bind_map, Option.map_some, Option.map_none, Option.bind_none, apply_ite (Option.map _), if_true, Function.comp_def, cvM]
  all_goals rfl
def G_M_goesHome_64 (N : Nat) (rec2 : Int32 → mst → Option (Int32 × mst)) (x1 : Int32) (x2 : Int32) (s : mst) : Option (Int32 × mst) :=
    rec2 (x2 + 1) s
theorem sG_M_goesHome_64 {h0 : Nat → pm_C} {B : Nat} {D : Nat → pd} {hi z N : Nat} (h : FX D hi) {rec2 : Int32 → pm_S → Option (Int32 × pm_S)} {grec2 : Int32 → mst → Option (Int32 × mst)} (hrec2 : ∀ (y1 : Int32) (s : mst), rec2 y1 (mkM h0 B D hi z s) = (grec2 y1 s).map (cvM h0 B D hi z)) {x1 : Int32} {x2 : Int32} {s : mst} : F_M_goesHome_64 N rec2 (B + 85) x1 x2 (mkM h0 B D hi z s) = (G_M_goesHome_64 N grec2 x1 x2 s).map (cvM h0 B D hi z) := by
  simp only [F_M_goesHome_64, G_M_goesHome_64, aim_125 h, rdm_85_29 h, rdm_85_53 h, sg_M_goes h, sg_M_isAstray h, sg_M_isFree h, sG_M_goesHome_70 h, hrec2, Option.bind_some, Option.map_bind, Option.bind_map, Option.map_some, Option.map_none, Option.bind_none, apply_ite (Option.map _), if_true, Function.comp_def, cvM]
  all_goals rfl
def G_M_goesHome_42 (N : Nat)  (x1 : Int32) (x2 : Int32) (s : mst) : Option (Int32 × mst) :=
    (rdA s 125 70 ((10 * (s.1 85 29)) + x2)).bind fun v6 =>
    (G_M_goes N s x1 x2 v6).bind fun s7 =>
    some (1, s7)
theorem sG_M_goesHome_42 {h0 : Nat → pm_C} {B : Nat} {D : Nat → pd} {hi z N : Nat} (h : FX D hi)   {x1 : Int32} {x2 : Int32} {s : mst} : F_M_goesHome_42 N  (B + 85) x1 x2 (mkM h0 B D hi z s) = (G_M_goesHome_42 N  x1 x2 s).map (cvM h0 B D hi z) := by
  simp only [F_M_goesHome_42, G_M_goesHome_42, aim_125 h, rdm_85_29 h, rdm_85_53 h, sg_M_goes h, sg_M_isAstray h, sg_M_isFree h, sG_M_goesHome_70 h, Option.bind_some, Option.map_bind, Option.bind_map, Option.map_some, Option.map_none, Option.bind_none, apply_ite (Option.map _), if_true, Function.comp_def, cvM]
  all_goals rfl
def GB_M_goesHome_2 (N : Nat)  (rec2 : Int32 → mst → Option (Int32 × mst)) (x1 : Int32) (x2 : Int32) (s : mst) : Option (Int32 × mst) :=
    if 10 ≤ x2 then
    G_M_goesHome_70 N s
    else
    ((G_M_isAstray N s x1 x2).bind fun r2 =>
    if r2.1 = 0 then
    G_M_goesHome_64 N rec2 x1 x2 r2.2
    else
    ((rdA r2.2 125 70 ((10 * (r2.2.1 85 29)) + x2)).bind fun v3 =>
    (G_M_isFree N r2.2 x1 v3).bind fun r5 =>
    if r5.1 = 0 then
    G_M_goesHome_64 N rec2 x1 x2 r5.2
    else
    G_M_goesHome_42 N x1 x2 r5.2))
theorem sGB_M_goesHome_2 {h0 : Nat → pm_C} {B : Nat} {D : Nat → pd} {hi z N : Nat} (h : FX D hi) {rec2 : Int32 → pm_S → Option (Int32 × pm_S)} {grec2 : Int32 → mst → Option (Int32 × mst)} (hrec2 : ∀ (y1 : Int32) (s : mst), rec2 y1 (mkM h0 B D hi z s) = (grec2 y1 s).map (cvM h0 B D hi z)) {x1 : Int32} {x2 : Int32} {s : mst} : B_M_goesHome_2 N rec2 (B + 85) x1 x2 (mkM h0 B D hi z s) = (GB_M_goesHome_2 N grec2 x1 x2 s).map (cvM h0 B D hi z) := by
  simp only [B_M_goesHome_2, GB_M_goesHome_2, aim_125 h, rdm_85_29 h, rdm_85_53 h, sg_M_goes h, sg_M_isAstray h, sg_M_isFree h, sG_M_goesHome_70 h, sG_M_goesHome_64 h hrec2, sG_M_goesHome_42 h, hrec2, Option.bind_some, Option.map_bind, Option.bind_map, Option.map_some, Option.map_none, Option.bind_none, apply_ite (Option.map _), if_true, Function.comp_def, cvM]
  all_goals rfl
def G_M_goesHome_2 (N : Nat)  (x1 : Int32) : Nat → Int32 → mst → Option (Int32 × mst)
  | 0 => fun _ _ => none
  | n + 1 => fun x2 s => GB_M_goesHome_2 N  (G_M_goesHome_2 N  x1 n) x1 x2 s
theorem sG_M_goesHome_2 {h0 : Nat → pm_C} {B : Nat} {D : Nat → pd} {hi z N : Nat} (h : FX D hi)   {x1 : Int32} : ∀ (n : Nat) (x2 : Int32) (s : mst), F_M_goesHome_2 N  (B + 85) x1 n x2 (mkM h0 B D hi z s) = (G_M_goesHome_2 N  x1 n x2 s).map (cvM h0 B D hi z) := by
  intro n
  induction n with
  | zero => intro x2 s; rfl
  | succ n ih => intro x2 s; exact sGB_M_goesHome_2 h  ih
def G_M_goesHome (N : Nat) (s : mst) (p0 : Int32) : Option (Int32 × mst) :=
    G_M_goesHome_2 N p0 N 0 s
theorem sg_M_goesHome {h0 : Nat → pm_C} {B : Nat} {D : Nat → pd} {hi z N : Nat} (h : FX D hi) {p0 : Int32} {s : mst} : F_M_goesHome N (mkM h0 B D hi z s) (B + 85) p0 = (G_M_goesHome N s p0).map (cvM h0 B D hi z) := by
  simp only [F_M_goesHome, G_M_goesHome, aim_125 h, rdm_85_29 h, rdm_85_53 h, sg_M_goes h, sg_M_isAstray h, sg_M_isFree h, sG_M_goesHome_70 h, sG_M_goesHome_42 h, sG_M_goesHome_2 h, rcm_85 h, Option.bind_some, Option.map_bind, Option.bind_map, Option.map_some, Option.map_none, Option.bind_none, apply_ite (Option.map _), if_true, Function.comp_def, cvM]
  all_goals rfl
def G_M_givesWay_145 (N : Nat)   (s : mst) : Option (Int32 × mst) :=
    some (0, s)
theorem sG_M_givesWay_145 {h0 : Nat → pm_C} {B : Nat} {D : Nat → pd} {hi z N : Nat} (h : FX D hi)    {s : mst} : F_M_givesWay_145 N   (mkM h0 B D hi z s) = (G_M_givesWay_145 N   s).map (cvM h0 B D hi z) := by
  simp only [F_M_givesWay_145, G_M_givesWay_145, aim_107 h, aim_125 h, aim_127 h, rdm_85_27 h, rdm_85_29 h, rdm_85_53 h, rdm_85_55 h, sg_M_goes h, sg_M_isAstray h, sg_M_isFree h, sg_M_isIn h, sim_127 h, Option.bind_some, Option.map_bind, Option.bind_map, Option.map_some, Option.map_none, Option.bind_none, apply_ite (Option.map _), if_true, Function.comp_def, cvM]
  all_goals rfl
def G_M_givesWay_139 (N : Nat) (rec33 : Int32 → mst → Option (Int32 × mst)) (x1 : Int32) (x2 : Int32) (x3 : Int32) (s : mst) : Option (Int32 × mst) :=
    rec33 (x3 + 1) s
theorem sG_M_givesWay_139 {h0 : Nat → pm_C} {B : Nat} {D : Nat → pd} {hi z N : Nat} (h : FX D hi) {rec33 : Int32 → pm_S → Option (Int32 × pm_S)} {grec33 : Int32 → mst → Option (Int32 × mst)} (hrec33 : ∀ (y1 : Int32) (s : mst), rec33 y1 (mkM h0 B D hi z s) = (grec33 y1 s).map (cvM h0 B D hi z)) {x1 : Int32} {x2 : Int32} {x3 : Int32} {s : mst} : F_M_givesWay_139 N rec33 (B + 85) x1 x2 x3 (mkM h0 B D hi z s) = (G_M_givesWay_139 N grec33 x1 x2 x3 s).map (cvM h0 B D hi z) := by
  simp only [F_M_givesWay_139, G_M_givesWay_139, aim_107 h, aim_125 h, aim_127 h, rdm_85_27 h, rdm_85_29 h, rdm_85_53 h, rdm_85_55 h, sg_M_goes h, sg_M_isAstray h, sg_M_isFree h, sg_M_isIn h, sim_127 h, sG_M_givesWay_145 h, hrec33, Option.bind_some, Option.map_bind, Option.bind_map, Option.map_some, Option.map_none, Option.bind_none, apply_ite (Option.map _), if_true, Function.comp_def, cvM]
  all_goals rfl
def G_M_givesWay_123 (N : Nat)  (x1 : Int32) (x2 : Int32) (x3 : Int32) (s : mst) : Option (Int32 × mst) :=
    (stA 3 s 127 10 x3 1).bind fun s9 =>
    (G_M_goes N s9 x1 x3 x2).bind fun s10 =>
    some (1, s10)
theorem sG_M_givesWay_123 {h0 : Nat → pm_C} {B : Nat} {D : Nat → pd} {hi z N : Nat} (h : FX D hi)   {x1 : Int32} {x2 : Int32} {x3 : Int32} {s : mst} : F_M_givesWay_123 N  (B + 85) x1 x2 x3 (mkM h0 B D hi z s) = (G_M_givesWay_123 N  x1 x2 x3 s).map (cvM h0 B D hi z) := by
  simp only [F_M_givesWay_123, G_M_givesWay_123, aim_107 h, aim_125 h, aim_127 h, rdm_85_27 h, rdm_85_29 h, rdm_85_53 h, rdm_85_55 h, sg_M_goes h, sg_M_isAstray h, sg_M_isFree h, sg_M_isIn h, sim_127 h, sG_M_givesWay_145 h, Option.bind_some, Option.map_bind, Option.bind_map, Option.map_some, Option.map_none, Option.bind_none, apply_ite (Option.map _), if_true, Function.comp_def, cvM]
  all_goals rfl
def G_M_givesWay_102 (N : Nat) (rec33 : Int32 → mst → Option (Int32 × mst)) (x1 : Int32) (x2 : Int32) (x3 : Int32) (t0 : Int32) (s : mst) : Option (Int32 × mst) :=
    if t0 = (-1) then
    G_M_givesWay_139 N rec33 x1 x2 x3 s
    else
    ((G_M_isAstray N s x1 t0).bind fun r8 =>
    if r8.1 = 0 then
    G_M_givesWay_139 N rec33 x1 x2 x3 r8.2
    else
    G_M_givesWay_123 N x1 x2 x3 r8.2)
theorem sG_M_givesWay_102 {h0 : Nat → pm_C} {B : Nat} {D : Nat → pd} {hi z N : Nat} (h : FX D hi) {rec33 : Int32 → pm_S → Option (Int32 × pm_S)} {grec33 : Int32 → mst → Option (Int32 × mst)} (hrec33 : ∀ (y1 : Int32) (s : mst), rec33 y1 (mkM h0 B D hi z s) = (grec33 y1 s).map (cvM h0 B D hi z)) {x1 : Int32} {x2 : Int32} {x3 : Int32} {t0 : Int32} {s : mst} : F_M_givesWay_102 N rec33 (B + 85) x1 x2 x3 t0 (mkM h0 B D hi z s) = (G_M_givesWay_102 N grec33 x1 x2 x3 t0 s).map (cvM h0 B D hi z) := by
  simp only [F_M_givesWay_102, G_M_givesWay_102, aim_107 h, aim_125 h, aim_127 h, rdm_85_27 h, rdm_85_29 h, rdm_85_53 h, rdm_85_55 h, sg_M_goes h, sg_M_isAstray h, sg_M_isFree h, sg_M_isIn h, sim_127 h, sG_M_givesWay_145 h, sG_M_givesWay_139 h hrec33, sG_M_givesWay_123 h, hrec33, Option.bind_some, Option.map_bind, Option.bind_map, Option.map_some, Option.map_none, Option.bind_none, apply_ite (Option.map _), if_true, Function.comp_def, cvM]
  all_goals rfl
def GB_M_givesWay_33 (N : Nat)  (rec33 : Int32 → mst → Option (Int32 × mst)) (x1 : Int32) (x2 : Int32) (x3 : Int32) (s : mst) : Option (Int32 × mst) :=
    if 10 ≤ x3 then
    G_M_givesWay_145 N s
    else
    ((G_M_isAstray N s x1 x3).bind fun r2 =>
    if r2.1 = 0 then
    G_M_givesWay_139 N rec33 x1 x2 x3 r2.2
    else
    ((rdA r2.2 127 10 x3).bind fun v3 =>
    if v3 = 0 then
    ((rdA r2.2 125 70 ((10 * (r2.2.1 85 29)) + x3)).bind fun v4 =>
    (G_M_isIn N r2.2 v4 0 5).bind fun r6 =>
    if r6.1 = 0 then
    G_M_givesWay_102 N rec33 x1 x2 x3 (-1) r6.2
    else
    ((rdA r6.2 107 42 ((6 * x1) + v4)).bind fun v11 =>
    G_M_givesWay_102 N rec33 x1 x2 x3 v11 r6.2))
    else
    G_M_givesWay_139 N rec33 x1 x2 x3 r2.2))
theorem sGB_M_givesWay_33 {h0 : Nat → pm_C} {B : Nat} {D : Nat → pd} {hi z N : Nat} (h : FX D hi) {rec33 : Int32 → pm_S → Option (Int32 × pm_S)} {grec33 : Int32 → mst → Option (Int32 × mst)} (hrec33 : ∀ (y1 : Int32) (s : mst), rec33 y1 (mkM h0 B D hi z s) = (grec33 y1 s).map (cvM h0 B D hi z)) {x1 : Int32} {x2 : Int32} {x3 : Int32} {s : mst} : B_M_givesWay_33 N rec33 (B + 85) x1 x2 x3 (mkM h0 B D hi z s) = (GB_M_givesWay_33 N grec33 x1 x2 x3 s).map (cvM h0 B D hi z) := by
  simp only [B_M_givesWay_33, GB_M_givesWay_33, aim_107 h, aim_125 h, aim_127 h, rdm_85_27 h, rdm_85_29 h, rdm_85_53 h, rdm_85_55 h, sg_M_goes h, sg_M_isAstray h, sg_M_isFree h, sg_M_isIn h, sim_127 h, sG_M_givesWay_145 h, sG_M_givesWay_139 h hrec33, sG_M_givesWay_123 h, sG_M_givesWay_102 h hrec33, hrec33, Option.bind_some, Option.map_bind, Option.bind_map, Option.map_some, Option.map_none, Option.bind_none, apply_ite (Option.map _), if_true, Function.comp_def, cvM]
  all_goals rfl
def G_M_givesWay_33 (N : Nat)  (x1 : Int32) (x2 : Int32) : Nat → Int32 → mst → Option (Int32 × mst)
  | 0 => fun _ _ => none
  | n + 1 => fun x3 s => GB_M_givesWay_33 N  (G_M_givesWay_33 N  x1 x2 n) x1 x2 x3 s
theorem sG_M_givesWay_33 {h0 : Nat → pm_C} {B : Nat} {D : Nat → pd} {hi z N : Nat} (h : FX D hi)   {x1 : Int32} {x2 : Int32} : ∀ (n : Nat) (x3 : Int32) (s : mst), F_M_givesWay_33 N  (B + 85) x1 x2 n x3 (mkM h0 B D hi z s) = (G_M_givesWay_33 N  x1 x2 n x3 s).map (cvM h0 B D hi z) := by
  intro n
  induction n with
  | zero => intro x3 s; rfl
  | succ n ih => intro x3 s; exact sGB_M_givesWay_33 h  ih
def G_M_givesWay_23 (N : Nat)  (x1 : Int32) (x2 : Int32) (s : mst) : Option (Int32 × mst) :=
    if x2 = 6 then
    some (0, s)
    else
    G_M_givesWay_33 N x1 x2 N 0 s
theorem sG_M_givesWay_23 {h0 : Nat → pm_C} {B : Nat} {D : Nat → pd} {hi z N : Nat} (h : FX D hi)   {x1 : Int32} {x2 : Int32} {s : mst} : F_M_givesWay_23 N  (B + 85) x1 x2 (mkM h0 B D hi z s) = (G_M_givesWay_23 N  x1 x2 s).map (cvM h0 B D hi z) := by
  simp only [F_M_givesWay_23, G_M_givesWay_23, aim_107 h, aim_125 h, aim_127 h, rdm_85_27 h, rdm_85_29 h, rdm_85_53 h, rdm_85_55 h, sg_M_goes h, sg_M_isAstray h, sg_M_isFree h, sg_M_isIn h, sim_127 h, sG_M_givesWay_145 h, sG_M_givesWay_123 h, sG_M_givesWay_33 h, Option.bind_some, Option.map_bind, Option.bind_map, Option.map_some, Option.map_none, Option.bind_none, apply_ite (Option.map _), if_true, Function.comp_def, cvM]
  all_goals rfl
def GB_M_givesWay_2 (N : Nat)  (rec2 : Int32 → mst → Option (Int32 × mst)) (x1 : Int32) (x2 : Int32) (s : mst) : Option (Int32 × mst) :=
    if 6 ≤ x2 then
    G_M_givesWay_23 N x1 x2 s
    else
    ((G_M_isFree N s x1 x2).bind fun r13 =>
    if r13.1 = 0 then
    rec2 (x2 + 1) r13.2
    else
    G_M_givesWay_23 N x1 x2 r13.2)
theorem sGB_M_givesWay_2 {h0 : Nat → pm_C} {B : Nat} {D : Nat → pd} {hi z N : Nat} (h : FX D hi) {rec2 : Int32 → pm_S → Option (Int32 × pm_S)} {grec2 : Int32 → mst → Option (Int32 × mst)} (hrec2 : ∀ (y1 : Int32) (s : mst), rec2 y1 (mkM h0 B D hi z s) = (grec2 y1 s).map (cvM h0 B D hi z)) {x1 : Int32} {x2 : Int32} {s : mst} : B_M_givesWay_2 N rec2 (B + 85) x1 x2 (mkM h0 B D hi z s) = (GB_M_givesWay_2 N grec2 x1 x2 s).map (cvM h0 B D hi z) := by
  simp only [B_M_givesWay_2, GB_M_givesWay_2, aim_107 h, aim_125 h, aim_127 h, rdm_85_27 h, rdm_85_29 h, rdm_85_53 h, rdm_85_55 h, sg_M_goes h, sg_M_isAstray h, sg_M_isFree h, sg_M_isIn h, sim_127 h, sG_M_givesWay_145 h, sG_M_givesWay_123 h, sG_M_givesWay_33 h, sG_M_givesWay_23 h, hrec2, Option.bind_some, Option.map_bind, Option.bind_map, Option.map_some, Option.map_none, Option.bind_none, apply_ite (Option.map _), if_true, Function.comp_def, cvM]
  all_goals rfl
def G_M_givesWay_2 (N : Nat)  (x1 : Int32) : Nat → Int32 → mst → Option (Int32 × mst)
  | 0 => fun _ _ => none
  | n + 1 => fun x2 s => GB_M_givesWay_2 N  (G_M_givesWay_2 N  x1 n) x1 x2 s
theorem sG_M_givesWay_2 {h0 : Nat → pm_C} {B : Nat} {D : Nat → pd} {hi z N : Nat} (h : FX D hi)   {x1 : Int32} : ∀ (n : Nat) (x2 : Int32) (s : mst), F_M_givesWay_2 N  (B + 85) x1 n x2 (mkM h0 B D hi z s) = (G_M_givesWay_2 N  x1 n x2 s).map (cvM h0 B D hi z) := by
  intro n
  induction n with
  | zero => intro x2 s; rfl
  | succ n ih => intro x2 s; exact sGB_M_givesWay_2 h  ih
def G_M_givesWay (N : Nat) (s : mst) (p0 : Int32) : Option (Int32 × mst) :=
    G_M_givesWay_2 N p0 N 0 s
theorem sg_M_givesWay {h0 : Nat → pm_C} {B : Nat} {D : Nat → pd} {hi z N : Nat} (h : FX D hi) {p0 : Int32} {s : mst} : F_M_givesWay N (mkM h0 B D hi z s) (B + 85) p0 = (G_M_givesWay N s p0).map (cvM h0 B D hi z) := by
  simp only [F_M_givesWay, G_M_givesWay, aim_107 h, aim_125 h, aim_127 h, rdm_85_27 h, rdm_85_29 h, rdm_85_53 h, rdm_85_55 h, sg_M_goes h, sg_M_isAstray h, sg_M_isFree h, sg_M_isIn h, sim_127 h, sG_M_givesWay_145 h, sG_M_givesWay_123 h, sG_M_givesWay_33 h, sG_M_givesWay_23 h, sG_M_givesWay_2 h, rcm_85 h, Option.bind_some, Option.map_bind, Option.bind_map, Option.map_some, Option.map_none, Option.bind_none, apply_ite (Option.map _), if_true, Function.comp_def, cvM]
  all_goals rfl
def G_M_moves_40 (N : Nat)   (s : mst) : Option (Int32 × mst) :=
    some ((-1), s)
theorem sG_M_moves_40 {h0 : Nat → pm_C} {B : Nat} {D : Nat → pd} {hi z N : Nat} (h : FX D hi)    {s : mst} : F_M_moves_40 N   (mkM h0 B D hi z s) = (G_M_moves_40 N   s).map (cvM h0 B D hi z) := by
  simp only [F_M_moves_40, G_M_moves_40, aim_106 h, aim_128 h, aim_87 h, aim_91 h, rdm_85_10 h, rdm_85_26 h, rdm_85_54 h, rdm_85_55 h, rdm_85_56 h, rdm_85_57 h, rdm_85_6 h, sg_M_comesTo h, sg_M_feeds h, sg_M_givesWay h, sg_M_goesHome h, sg_M_isIn h, sg_M_isWorld h, sg_M_lay h, sim_126 h, sim_127 h, wrm_85_0 h, wrm_85_57 h, Option.bind_some, Option.map_bind, Option.bind_map, Option.map_some, Option.map_none, Option.bind_none, apply_ite (Option.map _), if_true, Function.comp_def, cvM]
  all_goals rfl
def G_M_moves_236 (N : Nat)  (t0 : Int32) (s : mst) : Option (Int32 × mst) :=
    some (t0, s)
theorem sG_M_moves_236 {h0 : Nat → pm_C} {B : Nat} {D : Nat → pd} {hi z N : Nat} (h : FX D hi)   {t0 : Int32} {s : mst} : F_M_moves_236 N  t0 (mkM h0 B D hi z s) = (G_M_moves_236 N  t0 s).map (cvM h0 B D hi z) := by
  simp only [F_M_moves_236, G_M_moves_236, aim_106 h, aim_128 h, aim_87 h, aim_91 h, rdm_85_10 h, rdm_85_26 h, rdm_85_54 h, rdm_85_55 h, rdm_85_56 h, rdm_85_57 h, rdm_85_6 h, sg_M_comesTo h, sg_M_feeds h, sg_M_givesWay h, sg_M_goesHome h, sg_M_isIn h, sg_M_isWorld h, sg_M_lay h, sim_126 h, sim_127 h, wrm_85_0 h, wrm_85_57 h, sG_M_moves_40 h, Option.bind_some, Option.map_bind, Option.bind_map, Option.map_some, Option.map_none, Option.bind_none, apply_ite (Option.map _), if_true, Function.comp_def, cvM]
  all_goals rfl
def G_M_moves_197 (N : Nat)  (x4 : Int32) (s : mst) : Option (Int32 × mst) :=
    if x4 = (-1) then
    G_M_moves_236 N (s.1 85 57) s
    else
    ((G_M_isIn N s x4 0 ((s.1 85 57) - 1)).bind fun r12 =>
    if r12.1 = 0 then
    G_M_moves_236 N (-1) r12.2
    else
    ((rdA r12.2 128 26 x4).bind fun v13 =>
    G_M_moves_236 N v13 r12.2))
theorem sG_M_moves_197 {h0 : Nat → pm_C} {B : Nat} {D : Nat → pd} {hi z N : Nat} (h : FX D hi)   {x4 : Int32} {s : mst} : F_M_moves_197 N  (B + 85) x4 (mkM h0 B D hi z s) = (G_M_moves_197 N  x4 s).map (cvM h0 B D hi z) := by
  simp only [F_M_moves_197, G_M_moves_197, aim_106 h, aim_128 h, aim_87 h, aim_91 h, rdm_85_10 h, rdm_85_26 h, rdm_85_54 h, rdm_85_55 h, rdm_85_56 h, rdm_85_57 h, rdm_85_6 h, sg_M_comesTo h, sg_M_feeds h, sg_M_givesWay h, sg_M_goesHome h, sg_M_isIn h, sg_M_isWorld h, sg_M_lay h, sim_126 h, sim_127 h, wrm_85_0 h, wrm_85_57 h, sG_M_moves_40 h, sG_M_moves_236 h, Option.bind_some, Option.map_bind, Option.bind_map, Option.map_some, Option.map_none, Option.bind_none, apply_ite (Option.map _), if_true, Function.comp_def, cvM]
  all_goals rfl
def G_M_moves_192 (N : Nat) (rec164 : Int32 → mst → Option (Int32 × mst)) (x4 : Int32) (x5 : Int32) (t0 : Int32) (s : mst) : Option (Int32 × mst) :=
    rec164 t0 s
theorem sG_M_moves_192 {h0 : Nat → pm_C} {B : Nat} {D : Nat → pd} {hi z N : Nat} (h : FX D hi) {rec164 : Int32 → pm_S → Option (Int32 × pm_S)} {grec164 : Int32 → mst → Option (Int32 × mst)} (hrec164 : ∀ (y1 : Int32) (s : mst), rec164 y1 (mkM h0 B D hi z s) = (grec164 y1 s).map (cvM h0 B D hi z)) {x4 : Int32} {x5 : Int32} {t0 : Int32} {s : mst} : F_M_moves_192 N rec164 (B + 85) x4 x5 t0 (mkM h0 B D hi z s) = (G_M_moves_192 N grec164 x4 x5 t0 s).map (cvM h0 B D hi z) := by
  simp only [F_M_moves_192, G_M_moves_192, aim_106 h, aim_128 h, aim_87 h, aim_91 h, rdm_85_10 h, rdm_85_26 h, rdm_85_54 h, rdm_85_55 h, rdm_85_56 h, rdm_85_57 h, rdm_85_6 h, sg_M_comesTo h, sg_M_feeds h, sg_M_givesWay h, sg_M_goesHome h, sg_M_isIn h, sg_M_isWorld h, sg_M_lay h, sim_126 h, sim_127 h, wrm_85_0 h, wrm_85_57 h, sG_M_moves_40 h, sG_M_moves_236 h, sG_M_moves_197 h, hrec164, Option.bind_some, Option.map_bind, Option.bind_map, Option.map_some, Option.map_none, Option.bind_none, apply_ite (Option.map _), if_true, Function.comp_def, cvM]
  all_goals rfl
def G_M_moves_187 (N : Nat) (rec164 : Int32 → mst → Option (Int32 × mst)) (x4 : Int32) (x5 : Int32) (s : mst) : Option (Int32 × mst) :=
    G_M_moves_192 N rec164 x4 x5 1 s
theorem sG_M_moves_187 {h0 : Nat → pm_C} {B : Nat} {D : Nat → pd} {hi z N : Nat} (h : FX D hi) {rec164 : Int32 → pm_S → Option (Int32 × pm_S)} {grec164 : Int32 → mst → Option (Int32 × mst)} (hrec164 : ∀ (y1 : Int32) (s : mst), rec164 y1 (mkM h0 B D hi z s) = (grec164 y1 s).map (cvM h0 B D hi z)) {x4 : Int32} {x5 : Int32} {s : mst} : F_M_moves_187 N rec164 (B + 85) x4 x5 (mkM h0 B D hi z s) = (G_M_moves_187 N grec164 x4 x5 s).map (cvM h0 B D hi z) := by
  simp only [F_M_moves_187, G_M_moves_187, aim_106 h, aim_128 h, aim_87 h, aim_91 h, rdm_85_10 h, rdm_85_26 h, rdm_85_54 h, rdm_85_55 h, rdm_85_56 h, rdm_85_57 h, rdm_85_6 h, sg_M_comesTo h, sg_M_feeds h, sg_M_givesWay h, sg_M_goesHome h, sg_M_isIn h, sg_M_isWorld h, sg_M_lay h, sim_126 h, sim_127 h, wrm_85_0 h, wrm_85_57 h, sG_M_moves_40 h, sG_M_moves_236 h, sG_M_moves_197 h, sG_M_moves_192 h hrec164, hrec164, Option.bind_some, Option.map_bind, Option.bind_map, Option.map_some, Option.map_none, Option.bind_none, apply_ite (Option.map _), if_true, Function.comp_def, cvM]
  all_goals rfl
def GB_M_moves_164 (N : Nat)  (rec164 : Int32 → mst → Option (Int32 × mst)) (x4 : Int32) (x5 : Int32) (x6 : Int32) (s : mst) : Option (Int32 × mst) :=
    if x6 = 0 then
    G_M_moves_197 N x4 s
    else
    ((G_M_goesHome N s x5).bind fun r15 =>
    if r15.1 = 0 then
    ((G_M_givesWay N r15.2 x5).bind fun r17 =>
    if r17.1 = 0 then
    G_M_moves_192 N rec164 x4 x5 0 r17.2
    else
    G_M_moves_187 N rec164 x4 x5 r17.2)
    else
    G_M_moves_187 N rec164 x4 x5 r15.2)
theorem sGB_M_moves_164 {h0 : Nat → pm_C} {B : Nat} {D : Nat → pd} {hi z N : Nat} (h : FX D hi) {rec164 : Int32 → pm_S → Option (Int32 × pm_S)} {grec164 : Int32 → mst → Option (Int32 × mst)} (hrec164 : ∀ (y1 : Int32) (s : mst), rec164 y1 (mkM h0 B D hi z s) = (grec164 y1 s).map (cvM h0 B D hi z)) {x4 : Int32} {x5 : Int32} {x6 : Int32} {s : mst} : B_M_moves_164 N rec164 (B + 85) x4 x5 x6 (mkM h0 B D hi z s) = (GB_M_moves_164 N grec164 x4 x5 x6 s).map (cvM h0 B D hi z) := by
  simp only [B_M_moves_164, GB_M_moves_164, aim_106 h, aim_128 h, aim_87 h, aim_91 h, rdm_85_10 h, rdm_85_26 h, rdm_85_54 h, rdm_85_55 h, rdm_85_56 h, rdm_85_57 h, rdm_85_6 h, sg_M_comesTo h, sg_M_feeds h, sg_M_givesWay h, sg_M_goesHome h, sg_M_isIn h, sg_M_isWorld h, sg_M_lay h, sim_126 h, sim_127 h, wrm_85_0 h, wrm_85_57 h, sG_M_moves_40 h, sG_M_moves_236 h, sG_M_moves_197 h, sG_M_moves_192 h hrec164, sG_M_moves_187 h hrec164, hrec164, Option.bind_some, Option.map_bind, Option.bind_map, Option.map_some, Option.map_none, Option.bind_none, apply_ite (Option.map _), if_true, Function.comp_def, cvM]
  all_goals rfl
def G_M_moves_164 (N : Nat)  (x4 : Int32) (x5 : Int32) : Nat → Int32 → mst → Option (Int32 × mst)
  | 0 => fun _ _ => none
  | n + 1 => fun x6 s => GB_M_moves_164 N  (G_M_moves_164 N  x4 x5 n) x4 x5 x6 s
theorem sG_M_moves_164 {h0 : Nat → pm_C} {B : Nat} {D : Nat → pd} {hi z N : Nat} (h : FX D hi)   {x4 : Int32} {x5 : Int32} : ∀ (n : Nat) (x6 : Int32) (s : mst), F_M_moves_164 N  (B + 85) x4 x5 n x6 (mkM h0 B D hi z s) = (G_M_moves_164 N  x4 x5 n x6 s).map (cvM h0 B D hi z) := by
  intro n
  induction n with
  | zero => intro x6 s; rfl
  | succ n ih => intro x6 s; exact sGB_M_moves_164 h  ih
def G_M_moves_156 (N : Nat)  (x4 : Int32) (x5 : Int32) (s : mst) : Option (Int32 × mst) :=
    G_M_moves_164 N x4 x5 N 1 (wrI s 85 57 0)
theorem sG_M_moves_156 {h0 : Nat → pm_C} {B : Nat} {D : Nat → pd} {hi z N : Nat} (h : FX D hi)   {x4 : Int32} {x5 : Int32} {s : mst} : F_M_moves_156 N  (B + 85) x4 x5 (mkM h0 B D hi z s) = (G_M_moves_156 N  x4 x5 s).map (cvM h0 B D hi z) := by
  simp only [F_M_moves_156, G_M_moves_156, aim_106 h, aim_128 h, aim_87 h, aim_91 h, rdm_85_10 h, rdm_85_26 h, rdm_85_54 h, rdm_85_55 h, rdm_85_56 h, rdm_85_57 h, rdm_85_6 h, sg_M_comesTo h, sg_M_feeds h, sg_M_givesWay h, sg_M_goesHome h, sg_M_isIn h, sg_M_isWorld h, sg_M_lay h, sim_126 h, sim_127 h, wrm_85_0 h, wrm_85_57 h, sG_M_moves_40 h, sG_M_moves_236 h, sG_M_moves_197 h, sG_M_moves_164 h, Option.bind_some, Option.map_bind, Option.bind_map, Option.map_some, Option.map_none, Option.bind_none, apply_ite (Option.map _), if_true, Function.comp_def, cvM]
  all_goals rfl
def GB_M_moves_135 (N : Nat)  (rec135 : Int32 → mst → Option (Int32 × mst)) (x4 : Int32) (x5 : Int32) (x6 : Int32) (s : mst) : Option (Int32 × mst) :=
    if 10 ≤ x6 then
    G_M_moves_156 N x4 x5 s
    else
    ((stA 3 s 127 10 x6 0).bind fun s18 =>
    rec135 (x6 + 1) s18)
theorem sGB_M_moves_135 {h0 : Nat → pm_C} {B : Nat} {D : Nat → pd} {hi z N : Nat} (h : FX D hi) {rec135 : Int32 → pm_S → Option (Int32 × pm_S)} {grec135 : Int32 → mst → Option (Int32 × mst)} (hrec135 : ∀ (y1 : Int32) (s : mst), rec135 y1 (mkM h0 B D hi z s) = (grec135 y1 s).map (cvM h0 B D hi z)) {x4 : Int32} {x5 : Int32} {x6 : Int32} {s : mst} : B_M_moves_135 N rec135 (B + 85) x4 x5 x6 (mkM h0 B D hi z s) = (GB_M_moves_135 N grec135 x4 x5 x6 s).map (cvM h0 B D hi z) := by
  simp only [B_M_moves_135, GB_M_moves_135, aim_106 h, aim_128 h, aim_87 h, aim_91 h, rdm_85_10 h, rdm_85_26 h, rdm_85_54 h, rdm_85_55 h, rdm_85_56 h, rdm_85_57 h, rdm_85_6 h, sg_M_comesTo h, sg_M_feeds h, sg_M_givesWay h, sg_M_goesHome h, sg_M_isIn h, sg_M_isWorld h, sg_M_lay h, sim_126 h, sim_127 h, wrm_85_0 h, wrm_85_57 h, sG_M_moves_40 h, sG_M_moves_236 h, sG_M_moves_197 h, sG_M_moves_164 h, sG_M_moves_156 h, hrec135, Option.bind_some, Option.map_bind, Option.bind_map, Option.map_some, Option.map_none, Option.bind_none, apply_ite (Option.map _), if_true, Function.comp_def, cvM]
  all_goals rfl
def G_M_moves_135 (N : Nat)  (x4 : Int32) (x5 : Int32) : Nat → Int32 → mst → Option (Int32 × mst)
  | 0 => fun _ _ => none
  | n + 1 => fun x6 s => GB_M_moves_135 N  (G_M_moves_135 N  x4 x5 n) x4 x5 x6 s
theorem sG_M_moves_135 {h0 : Nat → pm_C} {B : Nat} {D : Nat → pd} {hi z N : Nat} (h : FX D hi)   {x4 : Int32} {x5 : Int32} : ∀ (n : Nat) (x6 : Int32) (s : mst), F_M_moves_135 N  (B + 85) x4 x5 n x6 (mkM h0 B D hi z s) = (G_M_moves_135 N  x4 x5 n x6 s).map (cvM h0 B D hi z) := by
  intro n
  induction n with
  | zero => intro x6 s; rfl
  | succ n ih => intro x6 s; exact sGB_M_moves_135 h  ih
def G_M_moves_132 (N : Nat)  (x4 : Int32) (x5 : Int32) (s : mst) : Option (Int32 × mst) :=
    G_M_moves_135 N x4 x5 N 0 s
theorem sG_M_moves_132 {h0 : Nat → pm_C} {B : Nat} {D : Nat → pd} {hi z N : Nat} (h : FX D hi)   {x4 : Int32} {x5 : Int32} {s : mst} : F_M_moves_132 N  (B + 85) x4 x5 (mkM h0 B D hi z s) = (G_M_moves_132 N  x4 x5 s).map (cvM h0 B D hi z) := by
  simp only [F_M_moves_132, G_M_moves_132, aim_106 h, aim_128 h, aim_87 h, aim_91 h, rdm_85_10 h, rdm_85_26 h, rdm_85_54 h, rdm_85_55 h, rdm_85_56 h, rdm_85_57 h, rdm_85_6 h, sg_M_comesTo h, sg_M_feeds h, sg_M_givesWay h, sg_M_goesHome h, sg_M_isIn h, sg_M_isWorld h, sg_M_lay h, sim_126 h, sim_127 h, wrm_85_0 h, wrm_85_57 h, sG_M_moves_40 h, sG_M_moves_236 h, sG_M_moves_197 h, sG_M_moves_164 h, sG_M_moves_156 h, sG_M_moves_135 h, Option.bind_some, Option.map_bind, Option.bind_map, Option.map_some, Option.map_none, Option.bind_none, apply_ite (Option.map _), if_true, Function.comp_def, cvM]
  all_goals rfl
def G_M_moves_125 (N : Nat) (rec60 : Int32 → mst → Option (Int32 × mst)) (x1 : Int32) (x4 : Int32) (x5 : Int32) (x6 : Int32) (t0 : Int32) (t1 : Int32) (s : mst) : Option (Int32 × mst) :=
    (stA 3 s 126 6 t1 t0).bind fun s20 =>
    rec60 (x6 + 1) s20
theorem sG_M_moves_125 {h0 : Nat → pm_C} {B : Nat} {D : Nat → pd} {hi z N : Nat} (h : FX D hi) {rec60 : Int32 → pm_S → Option (Int32 × pm_S)} {grec60 : Int32 → mst → Option (Int32 × mst)} (hrec60 : ∀ (y1 : Int32) (s : mst), rec60 y1 (mkM h0 B D hi z s) = (grec60 y1 s).map (cvM h0 B D hi z)) {x1 : Int32} {x4 : Int32} {x5 : Int32} {x6 : Int32} {t0 : Int32} {t1 : Int32} {s : mst} : F_M_moves_125_2 N rec60 (B + 85) x1 x4 x5 x6 t0 t1 (B + 126) (mkM h0 B D hi z s) = (G_M_moves_125 N grec60 x1 x4 x5 x6 t0 t1 s).map (cvM h0 B D hi z) := by
  simp only [F_M_moves_125_2, G_M_moves_125, aim_106 h, aim_128 h, aim_87 h, aim_91 h, rdm_85_10 h, rdm_85_26 h, rdm_85_54 h, rdm_85_55 h, rdm_85_56 h, rdm_85_57 h, rdm_85_6 h, sg_M_comesTo h, sg_M_feeds h, sg_M_givesWay h, sg_M_goesHome h, sg_M_isIn h, sg_M_isWorld h, sg_M_lay h, sim_126 h, sim_127 h, wrm_85_0 h, wrm_85_57 h, sG_M_moves_40 h, sG_M_moves_236 h, sG_M_moves_197 h, sG_M_moves_164 h, sG_M_moves_156 h, sG_M_moves_135 h, sG_M_moves_132 h, hrec60, Option.bind_some, Option.map_bind, Option.bind_map, Option.map_some, Option.map_none, Option.bind_none, apply_ite (Option.map _), if_true, Function.comp_def, cvM]
  all_goals rfl
def G_M_moves_124 (N : Nat) (rec60 : Int32 → mst → Option (Int32 × mst)) (x1 : Int32) (x4 : Int32) (x5 : Int32) (x6 : Int32) (t0 : Int32) (s : mst) : Option (Int32 × mst) :=
    G_M_moves_125 N rec60 x1 x4 x5 x6 0 t0 s
theorem sG_M_moves_124 {h0 : Nat → pm_C} {B : Nat} {D : Nat → pd} {hi z N : Nat} (h : FX D hi) {rec60 : Int32 → pm_S → Option (Int32 × pm_S)} {grec60 : Int32 → mst → Option (Int32 × mst)} (hrec60 : ∀ (y1 : Int32) (s : mst), rec60 y1 (mkM h0 B D hi z s) = (grec60 y1 s).map (cvM h0 B D hi z)) {x1 : Int32} {x4 : Int32} {x5 : Int32} {x6 : Int32} {t0 : Int32} {s : mst} : F_M_moves_124_2 N rec60 (B + 85) x1 x4 x5 x6 t0 (B + 126) (mkM h0 B D hi z s) = (G_M_moves_124 N grec60 x1 x4 x5 x6 t0 s).map (cvM h0 B D hi z) := by
  simp only [F_M_moves_124_2, G_M_moves_124, aim_106 h, aim_128 h, aim_87 h, aim_91 h, rdm_85_10 h, rdm_85_26 h, rdm_85_54 h, rdm_85_55 h, rdm_85_56 h, rdm_85_57 h, rdm_85_6 h, sg_M_comesTo h, sg_M_feeds h, sg_M_givesWay h, sg_M_goesHome h, sg_M_isIn h, sg_M_isWorld h, sg_M_lay h, sim_126 h, sim_127 h, wrm_85_0 h, wrm_85_57 h, sG_M_moves_40 h, sG_M_moves_236 h, sG_M_moves_197 h, sG_M_moves_164 h, sG_M_moves_156 h, sG_M_moves_135 h, sG_M_moves_132 h, sG_M_moves_125 h hrec60, hrec60, Option.bind_some, Option.map_bind, Option.bind_map, Option.map_some, Option.map_none, Option.bind_none, apply_ite (Option.map _), if_true, Function.comp_def, cvM]
  all_goals rfl
def GB_M_moves_60 (N : Nat)  (rec60 : Int32 → mst → Option (Int32 × mst)) (x1 : Int32) (x4 : Int32) (x5 : Int32) (x6 : Int32) (s : mst) : Option (Int32 × mst) :=
    if 6 ≤ x6 then
    G_M_moves_132 N x4 x5 s
    else
    ((rdA s 91 49 ((7 * x1) + x5)).bind fun v19 =>
    if v19 ≤ x6 then
    G_M_moves_124 N rec60 x1 x4 x5 x6 x6 s
    else
    ((rdA s 106 42 ((6 * x5) + x6)).bind fun v21 =>
    if v21 = (-1) then
    ((G_M_feeds N s x5 x6).bind fun r23 =>
    if (lg_cmp r23.1 0) = 0 then
    G_M_moves_124 N rec60 x1 x4 x5 x6 x6 r23.2
    else
    G_M_moves_125 N rec60 x1 x4 x5 x6 1 x6 r23.2)
    else
    G_M_moves_124 N rec60 x1 x4 x5 x6 x6 s))
theorem sGB_M_moves_60 {h0 : Nat → pm_C} {B : Nat} {D : Nat → pd} {hi z N : Nat} (h : FX D hi) {rec60 : Int32 → pm_S → Option (Int32 × pm_S)} {grec60 : Int32 → mst → Option (Int32 × mst)} (hrec60 : ∀ (y1 : Int32) (s : mst), rec60 y1 (mkM h0 B D hi z s) = (grec60 y1 s).map (cvM h0 B D hi z)) {x1 : Int32} {x4 : Int32} {x5 : Int32} {x6 : Int32} {s : mst} : B_M_moves_60 N rec60 (B + 85) x1 x4 x5 x6 (mkM h0 B D hi z s) = (GB_M_moves_60 N grec60 x1 x4 x5 x6 s).map (cvM h0 B D hi z) := by
  simp only [B_M_moves_60, GB_M_moves_60, aim_106 h, aim_128 h, aim_87 h, aim_91 h, rdm_85_10 h, rdm_85_26 h, rdm_85_54 h, rdm_85_55 h, rdm_85_56 h, rdm_85_57 h, rdm_85_6 h, sg_M_comesTo h, sg_M_feeds h, sg_M_givesWay h, sg_M_goesHome h, sg_M_isIn h, sg_M_isWorld h, sg_M_lay h, sim_126 h, sim_127 h, wrm_85_0 h, wrm_85_57 h, sG_M_moves_40 h, sG_M_moves_236 h, sG_M_moves_197 h, sG_M_moves_164 h, sG_M_moves_156 h, sG_M_moves_135 h, sG_M_moves_132 h, sG_M_moves_125 h hrec60, sG_M_moves_124 h hrec60, hrec60, Option.bind_some, Option.map_bind, Option.bind_map, Option.map_some, Option.map_none, Option.bind_none, apply_ite (Option.map _), if_true, Function.comp_def, cvM]
  all_goals rfl
def G_M_moves_60 (N : Nat)  (x1 : Int32) (x4 : Int32) (x5 : Int32) : Nat → Int32 → mst → Option (Int32 × mst)
  | 0 => fun _ _ => none
  | n + 1 => fun x6 s => GB_M_moves_60 N  (G_M_moves_60 N  x1 x4 x5 n) x1 x4 x5 x6 s
theorem sG_M_moves_60 {h0 : Nat → pm_C} {B : Nat} {D : Nat → pd} {hi z N : Nat} (h : FX D hi)   {x1 : Int32} {x4 : Int32} {x5 : Int32} : ∀ (n : Nat) (x6 : Int32) (s : mst), F_M_moves_60 N  (B + 85) x1 x4 x5 n x6 (mkM h0 B D hi z s) = (G_M_moves_60 N  x1 x4 x5 n x6 s).map (cvM h0 B D hi z) := by
  intro n
  induction n with
  | zero => intro x6 s; rfl
  | succ n ih => intro x6 s; exact sGB_M_moves_60 h  ih
def G_M_moves (N : Nat) (s : mst) (p0 : Int32) (p1 : Int32) (p2 : Int32) (p3 : Int32) : Option (Int32 × mst) :=
    (G_M_isWorld N (wrI s 85 0 0) p0 p1).bind fun r2 =>
    if r2.1 = 0 then
    G_M_moves_40 N r2.2
    else
    ((rdA r2.2 87 7 p0).bind fun v3 =>
    (G_M_isIn N r2.2 p2 0 (v3 - 1)).bind fun r5 =>
    if r5.1 = 0 then
    G_M_moves_40 N r5.2
    else
    ((G_M_comesTo N r5.2 p0 p2).bind fun r7 =>
    if r7.1 = (-1) then
    G_M_moves_40 N r7.2
    else
    ((G_M_comesTo N r7.2 p0 p2).bind fun r9 =>
    (G_M_lay N r9.2 p0 p1 0).bind fun s10 =>
    G_M_moves_60 N p0 p3 r9.1 N 0 s10)))
theorem sg_M_moves {h0 : Nat → pm_C} {B : Nat} {D : Nat → pd} {hi z N : Nat} (h : FX D hi) {p0 : Int32} {p1 : Int32} {p2 : Int32} {p3 : Int32} {s : mst} : F_M_moves N (mkM h0 B D hi z s) (B + 85) p0 p1 p2 p3 = (G_M_moves N s p0 p1 p2 p3).map (cvM h0 B D hi z) := by
  simp only [F_M_moves, G_M_moves, aim_106 h, aim_128 h, aim_87 h, aim_91 h, rdm_85_10 h, rdm_85_26 h, rdm_85_54 h, rdm_85_55 h, rdm_85_56 h, rdm_85_57 h, rdm_85_6 h, sg_M_comesTo h, sg_M_feeds h, sg_M_givesWay h, sg_M_goesHome h, sg_M_isIn h, sg_M_isWorld h, sg_M_lay h, sim_126 h, sim_127 h, wrm_85_0 h, wrm_85_57 h, sG_M_moves_40 h, sG_M_moves_236 h, sG_M_moves_197 h, sG_M_moves_164 h, sG_M_moves_156 h, sG_M_moves_135 h, sG_M_moves_132 h, sG_M_moves_60 h, rcm_85 h, Option.bind_some, Option.map_bind, Option.bind_map, Option.map_some, Option.map_none, Option.bind_none, apply_ite (Option.map _), if_true, Function.comp_def, cvM]
  all_goals rfl
def G_M_count_147 (N : Nat)  (t0 : Int32) (s : mst) : Option (Int32 × mst) :=
    some (t0, s)
theorem sG_M_count_147 {h0 : Nat → pm_C} {B : Nat} {D : Nat → pd} {hi z N : Nat} (h : FX D hi)   {t0 : Int32} {s : mst} : F_M_count_147 N  t0 (mkM h0 B D hi z s) = (G_M_count_147 N  t0 s).map (cvM h0 B D hi z) := by
  simp only [F_M_count_147, G_M_count_147, aim_111 h, aim_118 h, aim_87 h, aim_88 h, aim_99 h, rdm_85_18 h, rdm_85_19 h, rdm_85_2 h, rdm_85_37 h, rdm_85_44 h, rdm_85_6 h, rdm_85_7 h, wrm_85_0 h, Option.bind_some, Option.map_bind, Option.bind_map, Option.map_some, Option.map_none, Option.bind_none, apply_ite (Option.map _), if_true, Function.comp_def, cvM]
  all_goals rfl
def G_M_count_129 (N : Nat)  (t0 : Int32) (s : mst) : Option (Int32 × mst) :=
    some (t0, s)
theorem sG_M_count_129 {h0 : Nat → pm_C} {B : Nat} {D : Nat → pd} {hi z N : Nat} (h : FX D hi)   {t0 : Int32} {s : mst} : F_M_count_129 N  t0 (mkM h0 B D hi z s) = (G_M_count_129 N  t0 s).map (cvM h0 B D hi z) := by
  simp only [F_M_count_129, G_M_count_129, aim_111 h, aim_118 h, aim_87 h, aim_88 h, aim_99 h, rdm_85_18 h, rdm_85_19 h, rdm_85_2 h, rdm_85_37 h, rdm_85_44 h, rdm_85_6 h, rdm_85_7 h, wrm_85_0 h, sG_M_count_147 h, Option.bind_some, Option.map_bind, Option.bind_map, Option.map_some, Option.map_none, Option.bind_none, apply_ite (Option.map _), if_true, Function.comp_def, cvM]
  all_goals rfl
def G_M_count_111 (N : Nat)  (t0 : Int32) (s : mst) : Option (Int32 × mst) :=
    some (t0, s)
theorem sG_M_count_111 {h0 : Nat → pm_C} {B : Nat} {D : Nat → pd} {hi z N : Nat} (h : FX D hi)   {t0 : Int32} {s : mst} : F_M_count_111 N  t0 (mkM h0 B D hi z s) = (G_M_count_111 N  t0 s).map (cvM h0 B D hi z) := by
  simp only [F_M_count_111, G_M_count_111, aim_111 h, aim_118 h, aim_87 h, aim_88 h, aim_99 h, rdm_85_18 h, rdm_85_19 h, rdm_85_2 h, rdm_85_37 h, rdm_85_44 h, rdm_85_6 h, rdm_85_7 h, wrm_85_0 h, sG_M_count_147 h, sG_M_count_129 h, Option.bind_some, Option.map_bind, Option.bind_map, Option.map_some, Option.map_none, Option.bind_none, apply_ite (Option.map _), if_true, Function.comp_def, cvM]
  all_goals rfl
def G_M_count_93 (N : Nat)  (t0 : Int32) (s : mst) : Option (Int32 × mst) :=
    some (t0, s)
theorem sG_M_count_93 {h0 : Nat → pm_C} {B : Nat} {D : Nat → pd} {hi z N : Nat} (h : FX D hi)   {t0 : Int32} {s : mst} : F_M_count_93 N  t0 (mkM h0 B D hi z s) = (G_M_count_93 N  t0 s).map (cvM h0 B D hi z) := by
  simp only [F_M_count_93, G_M_count_93, aim_111 h, aim_118 h, aim_87 h, aim_88 h, aim_99 h, rdm_85_18 h, rdm_85_19 h, rdm_85_2 h, rdm_85_37 h, rdm_85_44 h, rdm_85_6 h, rdm_85_7 h, wrm_85_0 h, sG_M_count_147 h, sG_M_count_129 h, sG_M_count_111 h, Option.bind_some, Option.map_bind, Option.bind_map, Option.map_some, Option.map_none, Option.bind_none, apply_ite (Option.map _), if_true, Function.comp_def, cvM]
  all_goals rfl
def G_M_count_75 (N : Nat)  (t0 : Int32) (s : mst) : Option (Int32 × mst) :=
    some (t0, s)
theorem sG_M_count_75 {h0 : Nat → pm_C} {B : Nat} {D : Nat → pd} {hi z N : Nat} (h : FX D hi)   {t0 : Int32} {s : mst} : F_M_count_75 N  t0 (mkM h0 B D hi z s) = (G_M_count_75 N  t0 s).map (cvM h0 B D hi z) := by
  simp only [F_M_count_75, G_M_count_75, aim_111 h, aim_118 h, aim_87 h, aim_88 h, aim_99 h, rdm_85_18 h, rdm_85_19 h, rdm_85_2 h, rdm_85_37 h, rdm_85_44 h, rdm_85_6 h, rdm_85_7 h, wrm_85_0 h, sG_M_count_147 h, sG_M_count_129 h, sG_M_count_111 h, sG_M_count_93 h, Option.bind_some, Option.map_bind, Option.bind_map, Option.map_some, Option.map_none, Option.bind_none, apply_ite (Option.map _), if_true, Function.comp_def, cvM]
  all_goals rfl
def G_M_count (N : Nat) (s : mst) (p0 : Int32) : Option (Int32 × mst) :=
    if p0 = 0 then
    some ((wrI s 85 0 0).1 85 19, (wrI s 85 0 0))
    else
    (if p0 = 1 then
    some ((wrI s 85 0 0).1 85 2, (wrI s 85 0 0))
    else
    (if p0 = 2 then
    (if ((wrI s 85 0 0).1 85 19) = 0 then
    G_M_count_75 N 0 (wrI s 85 0 0)
    else
    ((rdA (wrI s 85 0 0) 87 7 0).bind fun v5 =>
    G_M_count_75 N v5 (wrI s 85 0 0)))
    else
    (if p0 = 3 then
    (if ((wrI s 85 0 0).1 85 19) = 0 then
    G_M_count_93 N 0 (wrI s 85 0 0)
    else
    ((rdA (wrI s 85 0 0) 88 7 0).bind fun v4 =>
    G_M_count_93 N v4 (wrI s 85 0 0)))
    else
    (if p0 = 4 then
    (if ((wrI s 85 0 0).1 85 19) = 0 then
    G_M_count_111 N 0 (wrI s 85 0 0)
    else
    ((rdA (wrI s 85 0 0) 99 7 0).bind fun v3 =>
    G_M_count_111 N v3 (wrI s 85 0 0)))
    else
    (if p0 = 5 then
    (if ((wrI s 85 0 0).1 85 19) = 0 then
    G_M_count_129 N 0 (wrI s 85 0 0)
    else
    ((rdA (wrI s 85 0 0) 111 7 0).bind fun v2 =>
    G_M_count_129 N v2 (wrI s 85 0 0)))
    else
    (if p0 = 6 then
    (if ((wrI s 85 0 0).1 85 19) = 0 then
    G_M_count_147 N 0 (wrI s 85 0 0)
    else
    ((rdA (wrI s 85 0 0) 118 7 0).bind fun v1 =>
    G_M_count_147 N v1 (wrI s 85 0 0)))
    else
    some ((-1), (wrI s 85 0 0))))))))
theorem sg_M_count {h0 : Nat → pm_C} {B : Nat} {D : Nat → pd} {hi z N : Nat} (h : FX D hi) {p0 : Int32} {s : mst} : F_M_count N (mkM h0 B D hi z s) (B + 85) p0 = (G_M_count N s p0).map (cvM h0 B D hi z) := by
  simp only [F_M_count, G_M_count, aim_111 h, aim_118 h, aim_87 h, aim_88 h, aim_99 h, rdm_85_18 h, rdm_85_19 h, rdm_85_2 h, rdm_85_37 h, rdm_85_44 h, rdm_85_6 h, rdm_85_7 h, wrm_85_0 h, sG_M_count_147 h, sG_M_count_129 h, sG_M_count_111 h, sG_M_count_93 h, sG_M_count_75 h, rcm_85 h, Option.bind_some, Option.map_bind, Option.bind_map, Option.map_some, Option.map_none, Option.bind_none, apply_ite (Option.map _), if_true, Function.comp_def, cvM]
  all_goals rfl
