def G_M_isTest_29 (N : Nat)  (t0 : Int32) (s : mst) : Option (Int32 × mst) :=
    if t0 = 0 ∨ t0 = 1 then some (t0, s) else none
theorem sG_M_isTest_29 {h0 : Nat → pm_C} {B : Nat} {D : Nat → pd} {hi z N : Nat} (h : FX D hi)   {t0 : Int32} {s : mst} : F_M_isTest_29 N  t0 (mkM h0 B D hi z s) = (G_M_isTest_29 N  t0 s).map (cvM h0 B D hi z) := by
  simp only [F_M_isTest_29, G_M_isTest_29, aim_111 h, rdm_85_37 h, sg_M_isIn h, sg_M_isPlan h, Option.bind_some, Option.map_bind, Option.bind_map, Option.map_some, Option.map_none, Option.bind_none, apply_ite (Option.map _), if_true, Function.comp_def, cvM]
  all_goals rfl
def G_M_isTest_28 (N : Nat)   (s : mst) : Option (Int32 × mst) :=
    G_M_isTest_29 N 0 s
theorem sG_M_isTest_28 {h0 : Nat → pm_C} {B : Nat} {D : Nat → pd} {hi z N : Nat} (h : FX D hi)    {s : mst} : F_M_isTest_28 N   (mkM h0 B D hi z s) = (G_M_isTest_28 N   s).map (cvM h0 B D hi z) := by
  simp only [F_M_isTest_28, G_M_isTest_28, aim_111 h, rdm_85_37 h, sg_M_isIn h, sg_M_isPlan h, sG_M_isTest_29 h, Option.bind_some, Option.map_bind, Option.bind_map, Option.map_some, Option.map_none, Option.bind_none, apply_ite (Option.map _), if_true, Function.comp_def, cvM]
  all_goals rfl
def G_M_isTest (N : Nat) (s : mst) (p0 : Int32) (p1 : Int32) : Option (Int32 × mst) :=
    (G_M_isPlan N s p0).bind fun r2 =>
    if r2.1 = 0 then
    G_M_isTest_28 N r2.2
    else
    ((rdA r2.2 111 7 p0).bind fun v3 =>
    (G_M_isIn N r2.2 p1 0 (v3 - 1)).bind fun r5 =>
    if r5.1 = 0 then
    G_M_isTest_28 N r5.2
    else
    G_M_isTest_29 N 1 r5.2)
theorem sg_M_isTest {h0 : Nat → pm_C} {B : Nat} {D : Nat → pd} {hi z N : Nat} (h : FX D hi) {p0 : Int32} {p1 : Int32} {s : mst} : F_M_isTest N (mkM h0 B D hi z s) (B + 85) p0 p1 = (G_M_isTest N s p0 p1).map (cvM h0 B D hi z) := by
  simp only [F_M_isTest, G_M_isTest, aim_111 h, rdm_85_37 h, sg_M_isIn h, sg_M_isPlan h, sG_M_isTest_29 h, sG_M_isTest_28 h, rcm_85 h, Option.bind_some, Option.map_bind, Option.bind_map, Option.map_some, Option.map_none, Option.bind_none, apply_ite (Option.map _), if_true, Function.comp_def, cvM]
  all_goals rfl
def G_M_would_78 (N : Nat)  (t0 : Int32) (s : mst) : Option (Int32 × mst) :=
    some (t0, s)
theorem sG_M_would_78 {h0 : Nat → pm_C} {B : Nat} {D : Nat → pd} {hi z N : Nat} (h : FX D hi)   {t0 : Int32} {s : mst} : F_M_would_78 N  t0 (mkM h0 B D hi z s) = (G_M_would_78 N  t0 s).map (cvM h0 B D hi z) := by
  simp only [F_M_would_78, G_M_would_78, aim_112 h, aim_113 h, aim_114 h, aim_115 h, aim_116 h, aim_117 h, rdm_85_29 h, rdm_85_38 h, rdm_85_39 h, rdm_85_40 h, rdm_85_41 h, rdm_85_42 h, rdm_85_43 h, sg_M_heardAt h, sg_M_metresAt h, Option.bind_some, Option.map_bind, Option.bind_map, Option.map_some, Option.map_none, Option.bind_none, apply_ite (Option.map _), if_true, Function.comp_def, cvM]
  all_goals rfl
def G_M_would (N : Nat) (s : mst) (p0 : Int32) : Option (Int32 × mst) :=
    (rdA s 112 72 ((12 * (s.1 85 29)) + p0)).bind fun v1 =>
    if v1 = 0 then
    ((rdA s 113 72 ((12 * (s.1 85 29)) + p0)).bind fun v2 =>
    (rdA s 114 72 ((12 * (s.1 85 29)) + p0)).bind fun v3 =>
    (rdA s 115 72 ((12 * (s.1 85 29)) + p0)).bind fun v4 =>
    (rdA s 116 72 ((12 * (s.1 85 29)) + p0)).bind fun v5 =>
    (rdA s 117 72 ((12 * (s.1 85 29)) + p0)).bind fun v6 =>
    (G_M_heardAt N s v2 v3 v4 v5 v6).bind fun r8 =>
    G_M_would_78 N r8.1 r8.2)
    else
    ((rdA s 113 72 ((12 * (s.1 85 29)) + p0)).bind fun v9 =>
    (rdA s 114 72 ((12 * (s.1 85 29)) + p0)).bind fun v10 =>
    (rdA s 115 72 ((12 * (s.1 85 29)) + p0)).bind fun v11 =>
    (G_M_metresAt N s v9 v10 v11).bind fun r13 =>
    G_M_would_78 N r13.1 r13.2)
theorem sg_M_would {h0 : Nat → pm_C} {B : Nat} {D : Nat → pd} {hi z N : Nat} (h : FX D hi) {p0 : Int32} {s : mst} : F_M_would N (mkM h0 B D hi z s) (B + 85) p0 = (G_M_would N s p0).map (cvM h0 B D hi z) := by
  simp only [F_M_would, G_M_would, aim_112 h, aim_113 h, aim_114 h, aim_115 h, aim_116 h, aim_117 h, rdm_85_29 h, rdm_85_38 h, rdm_85_39 h, rdm_85_40 h, rdm_85_41 h, rdm_85_42 h, rdm_85_43 h, sg_M_heardAt h, sg_M_metresAt h, sG_M_would_78 h, rcm_85 h, Option.bind_some, Option.map_bind, Option.bind_map, Option.map_some, Option.map_none, Option.bind_none, apply_ite (Option.map _), if_true, Function.comp_def, cvM]
  all_goals rfl
def G_M_wouldIn (N : Nat) (s : mst) (p0 : Int32) (p1 : Int32) (p2 : Int32) (p3 : Int32) : Option (Int32 × mst) :=
    (G_M_lay N s p0 p2 p3).bind fun s1 =>
    (G_M_would N s1 p1).bind fun r3 =>
    some (r3.1, r3.2)
theorem sg_M_wouldIn {h0 : Nat → pm_C} {B : Nat} {D : Nat → pd} {hi z N : Nat} (h : FX D hi) {p0 : Int32} {p1 : Int32} {p2 : Int32} {p3 : Int32} {s : mst} : F_M_wouldIn N (mkM h0 B D hi z s) (B + 85) p0 p1 p2 p3 = (G_M_wouldIn N s p0 p1 p2 p3).map (cvM h0 B D hi z) := by
  simp only [F_M_wouldIn, G_M_wouldIn, sg_M_lay h, sg_M_would h, rcm_85 h, Option.bind_some, Option.map_bind, Option.bind_map, Option.map_some, Option.map_none, Option.bind_none, apply_ite (Option.map _), if_true, Function.comp_def, cvM]
  all_goals rfl
def G_M_tells_36 (N : Nat)  (t0 : Int32) (s : mst) : Option (Int32 × mst) :=
    some (t0, s)
theorem sG_M_tells_36 {h0 : Nat → pm_C} {B : Nat} {D : Nat → pd} {hi z N : Nat} (h : FX D hi)   {t0 : Int32} {s : mst} : F_M_tells_36 N  t0 (mkM h0 B D hi z s) = (G_M_tells_36 N  t0 s).map (cvM h0 B D hi z) := by
  simp only [F_M_tells_36, G_M_tells_36, sg_M_isTest h, sg_M_isWorld h, sg_M_wouldIn h, wrm_85_0 h, Option.bind_some, Option.map_bind, Option.bind_map, Option.map_some, Option.map_none, Option.bind_none, apply_ite (Option.map _), if_true, Function.comp_def, cvM]
  all_goals rfl
def G_M_tells_35 (N : Nat)   (s : mst) : Option (Int32 × mst) :=
    G_M_tells_36 N (-1) s
theorem sG_M_tells_35 {h0 : Nat → pm_C} {B : Nat} {D : Nat → pd} {hi z N : Nat} (h : FX D hi)    {s : mst} : F_M_tells_35 N   (mkM h0 B D hi z s) = (G_M_tells_35 N   s).map (cvM h0 B D hi z) := by
  simp only [F_M_tells_35, G_M_tells_35, sg_M_isTest h, sg_M_isWorld h, sg_M_wouldIn h, wrm_85_0 h, sG_M_tells_36 h, Option.bind_some, Option.map_bind, Option.bind_map, Option.map_some, Option.map_none, Option.bind_none, apply_ite (Option.map _), if_true, Function.comp_def, cvM]
  all_goals rfl
def G_M_tells (N : Nat) (s : mst) (p0 : Int32) (p1 : Int32) (p2 : Int32) (p3 : Int32) : Option (Int32 × mst) :=
    (G_M_isTest N (wrI s 85 0 0) p0 p1).bind fun r2 =>
    if r2.1 = 0 then
    G_M_tells_35 N r2.2
    else
    ((G_M_isWorld N r2.2 p0 p2).bind fun r4 =>
    if r4.1 = 0 then
    G_M_tells_35 N r4.2
    else
    ((G_M_wouldIn N r4.2 p0 p1 p2 p3).bind fun r6 =>
    G_M_tells_36 N r6.1 r6.2))
theorem sg_M_tells {h0 : Nat → pm_C} {B : Nat} {D : Nat → pd} {hi z N : Nat} (h : FX D hi) {p0 : Int32} {p1 : Int32} {p2 : Int32} {p3 : Int32} {s : mst} : F_M_tells N (mkM h0 B D hi z s) (B + 85) p0 p1 p2 p3 = (G_M_tells N s p0 p1 p2 p3).map (cvM h0 B D hi z) := by
  simp only [F_M_tells, G_M_tells, sg_M_isTest h, sg_M_isWorld h, sg_M_wouldIn h, wrm_85_0 h, sG_M_tells_36 h, sG_M_tells_35 h, rcm_85 h, Option.bind_some, Option.map_bind, Option.bind_map, Option.map_some, Option.map_none, Option.bind_none, apply_ite (Option.map _), if_true, Function.comp_def, cvM]
  all_goals rfl
def G_M_read_30 (N : Nat)   (s : mst) : Option (Int32 × mst) :=
    some ((-1), s)
theorem sG_M_read_30 {h0 : Nat → pm_C} {B : Nat} {D : Nat → pd} {hi z N : Nat} (h : FX D hi)    {s : mst} : F_M_read_30 N   (mkM h0 B D hi z s) = (G_M_read_30 N   s).map (cvM h0 B D hi z) := by
  simp only [F_M_read_30, G_M_read_30, aim_118 h, rdm_85_44 h, rdm_85_45 h, rdm_85_46 h, rdm_85_47 h, sg_M_isTest h, sim_118 h, sim_119 h, sim_120 h, sim_121 h, wrm_85_0 h, Option.bind_some, Option.map_bind, Option.bind_map, Option.map_some, Option.map_none, Option.bind_none, apply_ite (Option.map _), if_true, Function.comp_def, cvM]
  all_goals rfl
def G_M_read (N : Nat) (s : mst) (p0 : Int32) (p1 : Int32) (p2 : Int32) (p3 : Int32) : Option (Int32 × mst) :=
    (G_M_isTest N (wrI s 85 0 0) p0 p1).bind fun r2 =>
    if r2.1 = 0 then
    G_M_read_30 N r2.2
    else
    (if p3 < 0 then
    G_M_read_30 N r2.2
    else
    ((rdA r2.2 118 7 p0).bind fun v3 =>
    if v3 = 24 then
    G_M_read_30 N r2.2
    else
    ((rdA r2.2 118 7 p0).bind fun v4 =>
    (stA 0 r2.2 119 144 ((24 * p0) + v4) p1).bind fun s5 =>
    (stA 3 s5 121 144 ((24 * p0) + v4) p2).bind fun s6 =>
    (stA 0 s6 120 144 ((24 * p0) + v4) p3).bind fun s7 =>
    (rdA s7 118 7 p0).bind fun v8 =>
    (stA 0 s7 118 7 p0 (v8 + 1)).bind fun s9 =>
    (rdA s9 118 7 p0).bind fun v10 =>
    some (v10, s9))))
theorem sg_M_read {h0 : Nat → pm_C} {B : Nat} {D : Nat → pd} {hi z N : Nat} (h : FX D hi) {p0 : Int32} {p1 : Int32} {p2 : Int32} {p3 : Int32} {s : mst} : F_M_read N (mkM h0 B D hi z s) (B + 85) p0 p1 p2 p3 = (G_M_read N s p0 p1 p2 p3).map (cvM h0 B D hi z) := by
  simp only [F_M_read, G_M_read, aim_118 h, rdm_85_44 h, rdm_85_45 h, rdm_85_46 h, rdm_85_47 h, sg_M_isTest h, sim_118 h, sim_119 h, sim_120 h, sim_121 h, wrm_85_0 h, sG_M_read_30 h, rcm_85 h, Option.bind_some, Option.map_bind, Option.bind_map, Option.map_some, Option.map_none, Option.bind_none, apply_ite (Option.map _), if_true, Function.comp_def, cvM]
  all_goals rfl
def G_M_unread_22 (N : Nat)   (s : mst) : Option (Int32 × mst) :=
    some ((-1), s)
theorem sG_M_unread_22 {h0 : Nat → pm_C} {B : Nat} {D : Nat → pd} {hi z N : Nat} (h : FX D hi)    {s : mst} : F_M_unread_22 N   (mkM h0 B D hi z s) = (G_M_unread_22 N   s).map (cvM h0 B D hi z) := by
  simp only [F_M_unread_22, G_M_unread_22, aim_118 h, rdm_85_44 h, sg_M_isPlan h, sim_118 h, wrm_85_0 h, Option.bind_some, Option.map_bind, Option.bind_map, Option.map_some, Option.map_none, Option.bind_none, apply_ite (Option.map _), if_true, Function.comp_def, cvM]
  all_goals rfl
def G_M_unread (N : Nat) (s : mst) (p0 : Int32) : Option (Int32 × mst) :=
    (G_M_isPlan N (wrI s 85 0 0) p0).bind fun r2 =>
    if r2.1 = 0 then
    G_M_unread_22 N r2.2
    else
    ((rdA r2.2 118 7 p0).bind fun v3 =>
    if v3 = 0 then
    G_M_unread_22 N r2.2
    else
    ((rdA r2.2 118 7 p0).bind fun v4 =>
    (stA 0 r2.2 118 7 p0 (v4 - 1)).bind fun s5 =>
    (rdA s5 118 7 p0).bind fun v6 =>
    some (v6, s5)))
theorem sg_M_unread {h0 : Nat → pm_C} {B : Nat} {D : Nat → pd} {hi z N : Nat} (h : FX D hi) {p0 : Int32} {s : mst} : F_M_unread N (mkM h0 B D hi z s) (B + 85) p0 = (G_M_unread N s p0).map (cvM h0 B D hi z) := by
  simp only [F_M_unread, G_M_unread, aim_118 h, rdm_85_44 h, sg_M_isPlan h, sim_118 h, wrm_85_0 h, sG_M_unread_22 h, rcm_85 h, Option.bind_some, Option.map_bind, Option.bind_map, Option.map_some, Option.map_none, Option.bind_none, apply_ite (Option.map _), if_true, Function.comp_def, cvM]
  all_goals rfl
def G_M_fits_58 (N : Nat)   (s : mst) : Option (Int32 × mst) :=
    some (1, s)
theorem sG_M_fits_58 {h0 : Nat → pm_C} {B : Nat} {D : Nat → pd} {hi z N : Nat} (h : FX D hi)    {s : mst} : F_M_fits_58 N   (mkM h0 B D hi z s) = (G_M_fits_58 N   s).map (cvM h0 B D hi z) := by
  simp only [F_M_fits_58, G_M_fits_58, aim_118 h, aim_119 h, aim_120 h, aim_121 h, rdm_85_44 h, rdm_85_45 h, rdm_85_46 h, rdm_85_47 h, sg_M_wouldIn h, Option.bind_some, Option.map_bind, Option.bind_map, Option.map_some, Option.map_none, Option.bind_none, apply_ite (Option.map _), if_true, Function.comp_def, cvM]
  all_goals rfl
def G_M_fits_50 (N : Nat)   (s : mst) : Option (Int32 × mst) :=
    some (0, s)
theorem sG_M_fits_50 {h0 : Nat → pm_C} {B : Nat} {D : Nat → pd} {hi z N : Nat} (h : FX D hi)    {s : mst} : F_M_fits_50 N   (mkM h0 B D hi z s) = (G_M_fits_50 N   s).map (cvM h0 B D hi z) := by
  simp only [F_M_fits_50, G_M_fits_50, aim_118 h, aim_119 h, aim_120 h, aim_121 h, rdm_85_44 h, rdm_85_45 h, rdm_85_46 h, rdm_85_47 h, sg_M_wouldIn h, sG_M_fits_58 h, Option.bind_some, Option.map_bind, Option.bind_map, Option.map_some, Option.map_none, Option.bind_none, apply_ite (Option.map _), if_true, Function.comp_def, cvM]
  all_goals rfl
def GB_M_fits_2 (N : Nat)  (rec2 : Int32 → mst → Option (Int32 × mst)) (x1 : Int32) (x2 : Int32) (x3 : Int32) (s : mst) : Option (Int32 × mst) :=
    (rdA s 118 7 x1).bind fun v1 =>
    if v1 ≤ x3 then
    G_M_fits_58 N s
    else
    ((rdA s 119 144 ((24 * x1) + x3)).bind fun v2 =>
    (rdA s 121 144 ((24 * x1) + x3)).bind fun v3 =>
    (G_M_wouldIn N s x1 v2 x2 v3).bind fun r5 =>
    (rdA r5.2 120 144 ((24 * x1) + x3)).bind fun v6 =>
    if r5.1 = v6 then
    rec2 (x3 + 1) r5.2
    else
    G_M_fits_50 N r5.2)
theorem sGB_M_fits_2 {h0 : Nat → pm_C} {B : Nat} {D : Nat → pd} {hi z N : Nat} (h : FX D hi) {rec2 : Int32 → pm_S → Option (Int32 × pm_S)} {grec2 : Int32 → mst → Option (Int32 × mst)} (hrec2 : ∀ (y1 : Int32) (s : mst), rec2 y1 (mkM h0 B D hi z s) = (grec2 y1 s).map (cvM h0 B D hi z)) {x1 : Int32} {x2 : Int32} {x3 : Int32} {s : mst} : B_M_fits_2 N rec2 (B + 85) x1 x2 x3 (mkM h0 B D hi z s) = (GB_M_fits_2 N grec2 x1 x2 x3 s).map (cvM h0 B D hi z) := by
  simp only [B_M_fits_2, GB_M_fits_2, aim_118 h, aim_119 h, aim_120 h, aim_121 h, rdm_85_44 h, rdm_85_45 h, rdm_85_46 h, rdm_85_47 h, sg_M_wouldIn h, sG_M_fits_58 h, sG_M_fits_50 h, hrec2, Option.bind_some, Option.map_bind, Option.bind_map, Option.map_some, Option.map_none, Option.bind_none, apply_ite (Option.map _), if_true, Function.comp_def, cvM]
  all_goals rfl
def G_M_fits_2 (N : Nat)  (x1 : Int32) (x2 : Int32) : Nat → Int32 → mst → Option (Int32 × mst)
  | 0 => fun _ _ => none
  | n + 1 => fun x3 s => GB_M_fits_2 N  (G_M_fits_2 N  x1 x2 n) x1 x2 x3 s
theorem sG_M_fits_2 {h0 : Nat → pm_C} {B : Nat} {D : Nat → pd} {hi z N : Nat} (h : FX D hi)   {x1 : Int32} {x2 : Int32} : ∀ (n : Nat) (x3 : Int32) (s : mst), F_M_fits_2 N  (B + 85) x1 x2 n x3 (mkM h0 B D hi z s) = (G_M_fits_2 N  x1 x2 n x3 s).map (cvM h0 B D hi z) := by
  intro n
  induction n with
  | zero => intro x3 s; rfl
  | succ n ih => intro x3 s; exact sGB_M_fits_2 h  ih
def G_M_fits (N : Nat) (s : mst) (p0 : Int32) (p1 : Int32) : Option (Int32 × mst) :=
    G_M_fits_2 N p0 p1 N 0 s
theorem sg_M_fits {h0 : Nat → pm_C} {B : Nat} {D : Nat → pd} {hi z N : Nat} (h : FX D hi) {p0 : Int32} {p1 : Int32} {s : mst} : F_M_fits N (mkM h0 B D hi z s) (B + 85) p0 p1 = (G_M_fits N s p0 p1).map (cvM h0 B D hi z) := by
  simp only [F_M_fits, G_M_fits, aim_118 h, aim_119 h, aim_120 h, aim_121 h, rdm_85_44 h, rdm_85_45 h, rdm_85_46 h, rdm_85_47 h, sg_M_wouldIn h, sG_M_fits_58 h, sG_M_fits_50 h, sG_M_fits_2 h, rcm_85 h, Option.bind_some, Option.map_bind, Option.bind_map, Option.map_some, Option.map_none, Option.bind_none, apply_ite (Option.map _), if_true, Function.comp_def, cvM]
  all_goals rfl
def G_M_fitting_73 (N : Nat)  (t0 : Int32) (s : mst) : Option (Int32 × mst) :=
    some (t0, s)
theorem sG_M_fitting_73 {h0 : Nat → pm_C} {B : Nat} {D : Nat → pd} {hi z N : Nat} (h : FX D hi)   {t0 : Int32} {s : mst} : F_M_fitting_73 N  t0 (mkM h0 B D hi z s) = (G_M_fitting_73 N  t0 s).map (cvM h0 B D hi z) := by
  simp only [F_M_fitting_73, G_M_fitting_73, aim_100 h, rdm_85_20 h, sg_M_fits h, sg_M_isPlan h, wrm_85_0 h, Option.bind_some, Option.map_bind, Option.bind_map, Option.map_some, Option.map_none, Option.bind_none, apply_ite (Option.map _), if_true, Function.comp_def, cvM]
  all_goals rfl
def G_M_fitting_63 (N : Nat)  (x2 : Int32) (x3 : Int32) (s : mst) : Option (Int32 × mst) :=
    if x2 = (-1) then
    G_M_fitting_73 N x3 s
    else
    G_M_fitting_73 N (-1) s
theorem sG_M_fitting_63 {h0 : Nat → pm_C} {B : Nat} {D : Nat → pd} {hi z N : Nat} (h : FX D hi)   {x2 : Int32} {x3 : Int32} {s : mst} : F_M_fitting_63 N  x2 x3 (mkM h0 B D hi z s) = (G_M_fitting_63 N  x2 x3 s).map (cvM h0 B D hi z) := by
  simp only [F_M_fitting_63, G_M_fitting_63, aim_100 h, rdm_85_20 h, sg_M_fits h, sg_M_isPlan h, wrm_85_0 h, sG_M_fitting_73 h, Option.bind_some, Option.map_bind, Option.bind_map, Option.map_some, Option.map_none, Option.bind_none, apply_ite (Option.map _), if_true, Function.comp_def, cvM]
  all_goals rfl
def G_M_fitting_57 (N : Nat) (rec20 : Int32 → Int32 → mst → Option (Int32 × mst)) (x1 : Int32) (x2 : Int32) (x3 : Int32) (x4 : Int32) (s : mst) : Option (Int32 × mst) :=
    rec20 x3 (x4 + 1) s
theorem sG_M_fitting_57 {h0 : Nat → pm_C} {B : Nat} {D : Nat → pd} {hi z N : Nat} (h : FX D hi) {rec20 : Int32 → Int32 → pm_S → Option (Int32 × pm_S)} {grec20 : Int32 → Int32 → mst → Option (Int32 × mst)} (hrec20 : ∀ (y1 : Int32) (y2 : Int32) (s : mst), rec20 y1 y2 (mkM h0 B D hi z s) = (grec20 y1 y2 s).map (cvM h0 B D hi z)) {x1 : Int32} {x2 : Int32} {x3 : Int32} {x4 : Int32} {s : mst} : F_M_fitting_57 N rec20 (B + 85) x1 x2 x3 x4 (mkM h0 B D hi z s) = (G_M_fitting_57 N grec20 x1 x2 x3 x4 s).map (cvM h0 B D hi z) := by
  simp only [F_M_fitting_57, G_M_fitting_57, aim_100 h, rdm_85_20 h, sg_M_fits h, sg_M_isPlan h, wrm_85_0 h, sG_M_fitting_73 h, sG_M_fitting_63 h, hrec20, Option.bind_some, Option.map_bind, Option.bind_map, Option.map_some, Option.map_none, Option.bind_none, apply_ite (Option.map _), if_true, Function.comp_def, cvM]
  all_goals rfl
def G_M_fitting_51 (N : Nat)  (x4 : Int32) (s : mst) : Option (Int32 × mst) :=
    some (x4, s)
theorem sG_M_fitting_51 {h0 : Nat → pm_C} {B : Nat} {D : Nat → pd} {hi z N : Nat} (h : FX D hi)   {x4 : Int32} {s : mst} : F_M_fitting_51 N  x4 (mkM h0 B D hi z s) = (G_M_fitting_51 N  x4 s).map (cvM h0 B D hi z) := by
  simp only [F_M_fitting_51, G_M_fitting_51, aim_100 h, rdm_85_20 h, sg_M_fits h, sg_M_isPlan h, wrm_85_0 h, sG_M_fitting_73 h, sG_M_fitting_63 h, Option.bind_some, Option.map_bind, Option.bind_map, Option.map_some, Option.map_none, Option.bind_none, apply_ite (Option.map _), if_true, Function.comp_def, cvM]
  all_goals rfl
def GB_M_fitting_20 (N : Nat)  (rec20 : Int32 → Int32 → mst → Option (Int32 × mst)) (x1 : Int32) (x2 : Int32) (x3 : Int32) (x4 : Int32) (s : mst) : Option (Int32 × mst) :=
    (rdA s 100 7 x1).bind fun v3 =>
    if (1 <<< (v3 &&& 31)) ≤ x4 then
    G_M_fitting_63 N x2 x3 s
    else
    ((G_M_fits N s x1 x4).bind fun r5 =>
    if r5.1 = 0 then
    G_M_fitting_57 N rec20 x1 x2 x3 x4 r5.2
    else
    (if x3 = x2 then
    G_M_fitting_51 N x4 r5.2
    else
    G_M_fitting_57 N rec20 x1 x2 (x3 + 1) x4 r5.2))
theorem sGB_M_fitting_20 {h0 : Nat → pm_C} {B : Nat} {D : Nat → pd} {hi z N : Nat} (h : FX D hi) {rec20 : Int32 → Int32 → pm_S → Option (Int32 × pm_S)} {grec20 : Int32 → Int32 → mst → Option (Int32 × mst)} (hrec20 : ∀ (y1 : Int32) (y2 : Int32) (s : mst), rec20 y1 y2 (mkM h0 B D hi z s) = (grec20 y1 y2 s).map (cvM h0 B D hi z)) {x1 : Int32} {x2 : Int32} {x3 : Int32} {x4 : Int32} {s : mst} : B_M_fitting_20 N rec20 (B + 85) x1 x2 x3 x4 (mkM h0 B D hi z s) = (GB_M_fitting_20 N grec20 x1 x2 x3 x4 s).map (cvM h0 B D hi z) := by
  simp only [B_M_fitting_20, GB_M_fitting_20, aim_100 h, rdm_85_20 h, sg_M_fits h, sg_M_isPlan h, wrm_85_0 h, sG_M_fitting_73 h, sG_M_fitting_63 h, sG_M_fitting_57 h hrec20, sG_M_fitting_51 h, hrec20, Option.bind_some, Option.map_bind, Option.bind_map, Option.map_some, Option.map_none, Option.bind_none, apply_ite (Option.map _), if_true, Function.comp_def, cvM]
  all_goals rfl
def G_M_fitting_20 (N : Nat)  (x1 : Int32) (x2 : Int32) : Nat → Int32 → Int32 → mst → Option (Int32 × mst)
  | 0 => fun _ _ _ => none
  | n + 1 => fun x3 x4 s => GB_M_fitting_20 N  (G_M_fitting_20 N  x1 x2 n) x1 x2 x3 x4 s
theorem sG_M_fitting_20 {h0 : Nat → pm_C} {B : Nat} {D : Nat → pd} {hi z N : Nat} (h : FX D hi)   {x1 : Int32} {x2 : Int32} : ∀ (n : Nat) (x3 : Int32) (x4 : Int32) (s : mst), F_M_fitting_20 N  (B + 85) x1 x2 n x3 x4 (mkM h0 B D hi z s) = (G_M_fitting_20 N  x1 x2 n x3 x4 s).map (cvM h0 B D hi z) := by
  intro n
  induction n with
  | zero => intro x3 x4 s; rfl
  | succ n ih => intro x3 x4 s; exact sGB_M_fitting_20 h  ih
def G_M_fitting (N : Nat) (s : mst) (p0 : Int32) (p1 : Int32) : Option (Int32 × mst) :=
    (G_M_isPlan N (wrI s 85 0 0) p0).bind fun r2 =>
    if r2.1 = 0 then
    some ((-1), r2.2)
    else
    G_M_fitting_20 N p0 p1 N 0 0 r2.2
theorem sg_M_fitting {h0 : Nat → pm_C} {B : Nat} {D : Nat → pd} {hi z N : Nat} (h : FX D hi) {p0 : Int32} {p1 : Int32} {s : mst} : F_M_fitting N (mkM h0 B D hi z s) (B + 85) p0 p1 = (G_M_fitting N s p0 p1).map (cvM h0 B D hi z) := by
  simp only [F_M_fitting, G_M_fitting, aim_100 h, rdm_85_20 h, sg_M_fits h, sg_M_isPlan h, wrm_85_0 h, sG_M_fitting_73 h, sG_M_fitting_63 h, sG_M_fitting_51 h, sG_M_fitting_20 h, rcm_85 h, Option.bind_some, Option.map_bind, Option.bind_map, Option.map_some, Option.map_none, Option.bind_none, apply_ite (Option.map _), if_true, Function.comp_def, cvM]
  all_goals rfl
def G_M_fewest_91 (N : Nat)  (x2 : Int32) (s : mst) : Option (Int32 × mst) :=
    some (x2, s)
theorem sG_M_fewest_91 {h0 : Nat → pm_C} {B : Nat} {D : Nat → pd} {hi z N : Nat} (h : FX D hi)   {x2 : Int32} {s : mst} : F_M_fewest_91 N  x2 (mkM h0 B D hi z s) = (G_M_fewest_91 N  x2 s).map (cvM h0 B D hi z) := by
  simp only [F_M_fewest_91, G_M_fewest_91, aim_100 h, rdm_85_20 h, sg_Int_bitCount h, sg_M_fits h, sg_M_isPlan h, wrm_85_0 h, Option.bind_some, Option.map_bind, Option.bind_map, Option.map_some, Option.map_none, Option.bind_none, apply_ite (Option.map _), if_true, Function.comp_def, cvM]
  all_goals rfl
def G_M_fewest_85 (N : Nat) (rec19 : Int32 → Int32 → mst → Option (Int32 × mst)) (x1 : Int32) (x2 : Int32) (x3 : Int32) (s : mst) : Option (Int32 × mst) :=
    rec19 x2 (x3 + 1) s
theorem sG_M_fewest_85 {h0 : Nat → pm_C} {B : Nat} {D : Nat → pd} {hi z N : Nat} (h : FX D hi) {rec19 : Int32 → Int32 → pm_S → Option (Int32 × pm_S)} {grec19 : Int32 → Int32 → mst → Option (Int32 × mst)} (hrec19 : ∀ (y1 : Int32) (y2 : Int32) (s : mst), rec19 y1 y2 (mkM h0 B D hi z s) = (grec19 y1 y2 s).map (cvM h0 B D hi z)) {x1 : Int32} {x2 : Int32} {x3 : Int32} {s : mst} : F_M_fewest_85 N rec19 (B + 85) x1 x2 x3 (mkM h0 B D hi z s) = (G_M_fewest_85 N grec19 x1 x2 x3 s).map (cvM h0 B D hi z) := by
  simp only [F_M_fewest_85, G_M_fewest_85, aim_100 h, rdm_85_20 h, sg_Int_bitCount h, sg_M_fits h, sg_M_isPlan h, wrm_85_0 h, sG_M_fewest_91 h, hrec19, Option.bind_some, Option.map_bind, Option.bind_map, Option.map_some, Option.map_none, Option.bind_none, apply_ite (Option.map _), if_true, Function.comp_def, cvM]
  all_goals rfl
def G_M_fewest_74 (N : Nat) (rec19 : Int32 → Int32 → mst → Option (Int32 × mst)) (x1 : Int32) (x2 : Int32) (x3 : Int32) (s : mst) : Option (Int32 × mst) :=
    (G_M_fits N s x1 x3).bind fun r5 =>
    if r5.1 = 0 then
    G_M_fewest_85 N rec19 x1 x2 x3 r5.2
    else
    G_M_fewest_85 N rec19 x1 x3 x3 r5.2
theorem sG_M_fewest_74 {h0 : Nat → pm_C} {B : Nat} {D : Nat → pd} {hi z N : Nat} (h : FX D hi) {rec19 : Int32 → Int32 → pm_S → Option (Int32 × pm_S)} {grec19 : Int32 → Int32 → mst → Option (Int32 × mst)} (hrec19 : ∀ (y1 : Int32) (y2 : Int32) (s : mst), rec19 y1 y2 (mkM h0 B D hi z s) = (grec19 y1 y2 s).map (cvM h0 B D hi z)) {x1 : Int32} {x2 : Int32} {x3 : Int32} {s : mst} : F_M_fewest_74 N rec19 (B + 85) x1 x2 x3 (mkM h0 B D hi z s) = (G_M_fewest_74 N grec19 x1 x2 x3 s).map (cvM h0 B D hi z) := by
  simp only [F_M_fewest_74, G_M_fewest_74, aim_100 h, rdm_85_20 h, sg_Int_bitCount h, sg_M_fits h, sg_M_isPlan h, wrm_85_0 h, sG_M_fewest_91 h, sG_M_fewest_85 h hrec19, hrec19, Option.bind_some, Option.map_bind, Option.bind_map, Option.map_some, Option.map_none, Option.bind_none, apply_ite (Option.map _), if_true, Function.comp_def, cvM]
  all_goals rfl
def G_M_fewest_49 (N : Nat) (rec19 : Int32 → Int32 → mst → Option (Int32 × mst)) (x1 : Int32) (x2 : Int32) (x3 : Int32) (t0 : Int32) (s : mst) : Option (Int32 × mst) :=
    if t0 < 0 then
    G_M_fewest_74 N rec19 x1 x2 x3 s
    else
    (if t0 = 0 then
    (if ((x3 &&& (x3 ^^^ x2)) &&& (-(x3 ^^^ x2))) = 0 then
    G_M_fewest_85 N rec19 x1 x2 x3 s
    else
    G_M_fewest_74 N rec19 x1 x2 x3 s)
    else
    G_M_fewest_85 N rec19 x1 x2 x3 s)
theorem sG_M_fewest_49 {h0 : Nat → pm_C} {B : Nat} {D : Nat → pd} {hi z N : Nat} (h : FX D hi) {rec19 : Int32 → Int32 → pm_S → Option (Int32 × pm_S)} {grec19 : Int32 → Int32 → mst → Option (Int32 × mst)} (hrec19 : ∀ (y1 : Int32) (y2 : Int32) (s : mst), rec19 y1 y2 (mkM h0 B D hi z s) = (grec19 y1 y2 s).map (cvM h0 B D hi z)) {x1 : Int32} {x2 : Int32} {x3 : Int32} {t0 : Int32} {s : mst} : F_M_fewest_49 N rec19 (B + 85) x1 x2 x3 t0 (mkM h0 B D hi z s) = (G_M_fewest_49 N grec19 x1 x2 x3 t0 s).map (cvM h0 B D hi z) := by
  simp only [F_M_fewest_49, G_M_fewest_49, aim_100 h, rdm_85_20 h, sg_Int_bitCount h, sg_M_fits h, sg_M_isPlan h, wrm_85_0 h, sG_M_fewest_91 h, sG_M_fewest_85 h hrec19, sG_M_fewest_74 h hrec19, hrec19, Option.bind_some, Option.map_bind, Option.bind_map, Option.map_some, Option.map_none, Option.bind_none, apply_ite (Option.map _), if_true, Function.comp_def, cvM]
  all_goals rfl
def GB_M_fewest_19 (N : Nat)  (rec19 : Int32 → Int32 → mst → Option (Int32 × mst)) (x1 : Int32) (x2 : Int32) (x3 : Int32) (s : mst) : Option (Int32 × mst) :=
    (rdA s 100 7 x1).bind fun v3 =>
    if (1 <<< (v3 &&& 31)) ≤ x3 then
    G_M_fewest_91 N x2 s
    else
    (if x2 = (-1) then
    G_M_fewest_49 N rec19 x1 x2 x3 (-1) s
    else
    ((G_Int_bitCount N s x3).bind fun r7 =>
    (G_Int_bitCount N r7.2 x2).bind fun r9 =>
    G_M_fewest_49 N rec19 x1 x2 x3 (r7.1 - r9.1) r9.2))
theorem sGB_M_fewest_19 {h0 : Nat → pm_C} {B : Nat} {D : Nat → pd} {hi z N : Nat} (h : FX D hi) {rec19 : Int32 → Int32 → pm_S → Option (Int32 × pm_S)} {grec19 : Int32 → Int32 → mst → Option (Int32 × mst)} (hrec19 : ∀ (y1 : Int32) (y2 : Int32) (s : mst), rec19 y1 y2 (mkM h0 B D hi z s) = (grec19 y1 y2 s).map (cvM h0 B D hi z)) {x1 : Int32} {x2 : Int32} {x3 : Int32} {s : mst} : B_M_fewest_19 N rec19 (B + 85) x1 x2 x3 (mkM h0 B D hi z s) = (GB_M_fewest_19 N grec19 x1 x2 x3 s).map (cvM h0 B D hi z) := by
  simp only [B_M_fewest_19, GB_M_fewest_19, aim_100 h, rdm_85_20 h, sg_Int_bitCount h, sg_M_fits h, sg_M_isPlan h, wrm_85_0 h, sG_M_fewest_91 h, sG_M_fewest_85 h hrec19, sG_M_fewest_74 h hrec19, sG_M_fewest_49 h hrec19, hrec19, Option.bind_some, Option.map_bind, Option.bind_map, Option.map_some, Option.map_none, Option.bind_none, apply_ite (Option.map _), if_true, Function.comp_def, cvM]
  all_goals rfl
def G_M_fewest_19 (N : Nat)  (x1 : Int32) : Nat → Int32 → Int32 → mst → Option (Int32 × mst)
  | 0 => fun _ _ _ => none
  | n + 1 => fun x2 x3 s => GB_M_fewest_19 N  (G_M_fewest_19 N  x1 n) x1 x2 x3 s
theorem sG_M_fewest_19 {h0 : Nat → pm_C} {B : Nat} {D : Nat → pd} {hi z N : Nat} (h : FX D hi)   {x1 : Int32} : ∀ (n : Nat) (x2 : Int32) (x3 : Int32) (s : mst), F_M_fewest_19 N  (B + 85) x1 n x2 x3 (mkM h0 B D hi z s) = (G_M_fewest_19 N  x1 n x2 x3 s).map (cvM h0 B D hi z) := by
  intro n
  induction n with
  | zero => intro x2 x3 s; rfl
  | succ n ih => intro x2 x3 s; exact sGB_M_fewest_19 h  ih
def G_M_fewest (N : Nat) (s : mst) (p0 : Int32) : Option (Int32 × mst) :=
    (G_M_isPlan N (wrI s 85 0 0) p0).bind fun r2 =>
    if r2.1 = 0 then
    some ((-1), r2.2)
    else
    G_M_fewest_19 N p0 N (-1) 0 r2.2
theorem sg_M_fewest {h0 : Nat → pm_C} {B : Nat} {D : Nat → pd} {hi z N : Nat} (h : FX D hi) {p0 : Int32} {s : mst} : F_M_fewest N (mkM h0 B D hi z s) (B + 85) p0 = (G_M_fewest N s p0).map (cvM h0 B D hi z) := by
  simp only [F_M_fewest, G_M_fewest, aim_100 h, rdm_85_20 h, sg_Int_bitCount h, sg_M_fits h, sg_M_isPlan h, wrm_85_0 h, sG_M_fewest_91 h, sG_M_fewest_19 h, rcm_85 h, Option.bind_some, Option.map_bind, Option.bind_map, Option.map_some, Option.map_none, Option.bind_none, apply_ite (Option.map _), if_true, Function.comp_def, cvM]
  all_goals rfl
def G_M_sure_22 (N : Nat)   (s : mst) : Option (Int32 × mst) :=
    some ((-1), s)
theorem sG_M_sure_22 {h0 : Nat → pm_C} {B : Nat} {D : Nat → pd} {hi z N : Nat} (h : FX D hi)    {s : mst} : F_M_sure_22 N   (mkM h0 B D hi z s) = (G_M_sure_22 N   s).map (cvM h0 B D hi z) := by
  simp only [F_M_sure_22, G_M_sure_22, aim_100 h, rdm_85_20 h, sg_M_fits h, sg_M_isIn h, sg_M_isPlan h, wrm_85_0 h, Option.bind_some, Option.map_bind, Option.bind_map, Option.map_some, Option.map_none, Option.bind_none, apply_ite (Option.map _), if_true, Function.comp_def, cvM]
  all_goals rfl
def G_M_sure_111 (N : Nat)  (t0 : Int32) (s : mst) : Option (Int32 × mst) :=
    some (t0, s)
theorem sG_M_sure_111 {h0 : Nat → pm_C} {B : Nat} {D : Nat → pd} {hi z N : Nat} (h : FX D hi)   {t0 : Int32} {s : mst} : F_M_sure_111 N  t0 (mkM h0 B D hi z s) = (G_M_sure_111 N  t0 s).map (cvM h0 B D hi z) := by
  simp only [F_M_sure_111, G_M_sure_111, aim_100 h, rdm_85_20 h, sg_M_fits h, sg_M_isIn h, sg_M_isPlan h, wrm_85_0 h, sG_M_sure_22 h, Option.bind_some, Option.map_bind, Option.bind_map, Option.map_some, Option.map_none, Option.bind_none, apply_ite (Option.map _), if_true, Function.comp_def, cvM]
  all_goals rfl
def G_M_sure_92 (N : Nat)  (x2 : Int32) (x3 : Int32) (x4 : Int32) (x5 : Int32) (s : mst) : Option (Int32 × mst) :=
    if x3 = 0 then
    G_M_sure_111 N (-1) s
    else
    (if x2 = 0 then
    G_M_sure_111 N x4 s
    else
    G_M_sure_111 N x5 s)
theorem sG_M_sure_92 {h0 : Nat → pm_C} {B : Nat} {D : Nat → pd} {hi z N : Nat} (h : FX D hi)   {x2 : Int32} {x3 : Int32} {x4 : Int32} {x5 : Int32} {s : mst} : F_M_sure_92 N  x2 x3 x4 x5 (mkM h0 B D hi z s) = (G_M_sure_92 N  x2 x3 x4 x5 s).map (cvM h0 B D hi z) := by
  simp only [F_M_sure_92, G_M_sure_92, aim_100 h, rdm_85_20 h, sg_M_fits h, sg_M_isIn h, sg_M_isPlan h, wrm_85_0 h, sG_M_sure_22 h, sG_M_sure_111 h, Option.bind_some, Option.map_bind, Option.bind_map, Option.map_some, Option.map_none, Option.bind_none, apply_ite (Option.map _), if_true, Function.comp_def, cvM]
  all_goals rfl
def G_M_sure_86 (N : Nat) (rec44 : Int32 → Int32 → Int32 → Int32 → mst → Option (Int32 × mst)) (x1 : Int32) (x2 : Int32) (x3 : Int32) (x4 : Int32) (x5 : Int32) (x6 : Int32) (s : mst) : Option (Int32 × mst) :=
    rec44 x3 x4 x5 (x6 + 1) s
theorem sG_M_sure_86 {h0 : Nat → pm_C} {B : Nat} {D : Nat → pd} {hi z N : Nat} (h : FX D hi) {rec44 : Int32 → Int32 → Int32 → Int32 → pm_S → Option (Int32 × pm_S)} {grec44 : Int32 → Int32 → Int32 → Int32 → mst → Option (Int32 × mst)} (hrec44 : ∀ (y1 : Int32) (y2 : Int32) (y3 : Int32) (y4 : Int32) (s : mst), rec44 y1 y2 y3 y4 (mkM h0 B D hi z s) = (grec44 y1 y2 y3 y4 s).map (cvM h0 B D hi z)) {x1 : Int32} {x2 : Int32} {x3 : Int32} {x4 : Int32} {x5 : Int32} {x6 : Int32} {s : mst} : F_M_sure_86 N rec44 (B + 85) x1 x2 x3 x4 x5 x6 (mkM h0 B D hi z s) = (G_M_sure_86 N grec44 x1 x2 x3 x4 x5 x6 s).map (cvM h0 B D hi z) := by
  simp only [F_M_sure_86, G_M_sure_86, aim_100 h, rdm_85_20 h, sg_M_fits h, sg_M_isIn h, sg_M_isPlan h, wrm_85_0 h, sG_M_sure_22 h, sG_M_sure_111 h, sG_M_sure_92 h, hrec44, Option.bind_some, Option.map_bind, Option.bind_map, Option.map_some, Option.map_none, Option.bind_none, apply_ite (Option.map _), if_true, Function.comp_def, cvM]
  all_goals rfl
def GB_M_sure_44 (N : Nat)  (rec44 : Int32 → Int32 → Int32 → Int32 → mst → Option (Int32 × mst)) (x1 : Int32) (x2 : Int32) (x3 : Int32) (x4 : Int32) (x5 : Int32) (x6 : Int32) (s : mst) : Option (Int32 × mst) :=
    (rdA s 100 7 x1).bind fun v6 =>
    if (1 <<< (v6 &&& 31)) ≤ x6 then
    G_M_sure_92 N x2 x3 x4 x5 s
    else
    ((G_M_fits N s x1 x6).bind fun r8 =>
    if r8.1 = 0 then
    G_M_sure_86 N rec44 x1 x2 x3 x4 x5 x6 r8.2
    else
    G_M_sure_86 N rec44 x1 x2 1 (x4 &&& x6) (x5 ||| x6) x6 r8.2)
theorem sGB_M_sure_44 {h0 : Nat → pm_C} {B : Nat} {D : Nat → pd} {hi z N : Nat} (h : FX D hi) {rec44 : Int32 → Int32 → Int32 → Int32 → pm_S → Option (Int32 × pm_S)} {grec44 : Int32 → Int32 → Int32 → Int32 → mst → Option (Int32 × mst)} (hrec44 : ∀ (y1 : Int32) (y2 : Int32) (y3 : Int32) (y4 : Int32) (s : mst), rec44 y1 y2 y3 y4 (mkM h0 B D hi z s) = (grec44 y1 y2 y3 y4 s).map (cvM h0 B D hi z)) {x1 : Int32} {x2 : Int32} {x3 : Int32} {x4 : Int32} {x5 : Int32} {x6 : Int32} {s : mst} : B_M_sure_44 N rec44 (B + 85) x1 x2 x3 x4 x5 x6 (mkM h0 B D hi z s) = (GB_M_sure_44 N grec44 x1 x2 x3 x4 x5 x6 s).map (cvM h0 B D hi z) := by
  simp only [B_M_sure_44, GB_M_sure_44, aim_100 h, rdm_85_20 h, sg_M_fits h, sg_M_isIn h, sg_M_isPlan h, wrm_85_0 h, sG_M_sure_22 h, sG_M_sure_111 h, sG_M_sure_92 h, sG_M_sure_86 h hrec44, hrec44, Option.bind_some, Option.map_bind, Option.bind_map, Option.map_some, Option.map_none, Option.bind_none, apply_ite (Option.map _), if_true, Function.comp_def, cvM]
  all_goals rfl
def G_M_sure_44 (N : Nat)  (x1 : Int32) (x2 : Int32) : Nat → Int32 → Int32 → Int32 → Int32 → mst → Option (Int32 × mst)
  | 0 => fun _ _ _ _ _ => none
  | n + 1 => fun x3 x4 x5 x6 s => GB_M_sure_44 N  (G_M_sure_44 N  x1 x2 n) x1 x2 x3 x4 x5 x6 s
theorem sG_M_sure_44 {h0 : Nat → pm_C} {B : Nat} {D : Nat → pd} {hi z N : Nat} (h : FX D hi)   {x1 : Int32} {x2 : Int32} : ∀ (n : Nat) (x3 : Int32) (x4 : Int32) (x5 : Int32) (x6 : Int32) (s : mst), F_M_sure_44 N  (B + 85) x1 x2 n x3 x4 x5 x6 (mkM h0 B D hi z s) = (G_M_sure_44 N  x1 x2 n x3 x4 x5 x6 s).map (cvM h0 B D hi z) := by
  intro n
  induction n with
  | zero => intro x3 x4 x5 x6 s; rfl
  | succ n ih => intro x3 x4 x5 x6 s; exact sGB_M_sure_44 h  ih
def G_M_sure (N : Nat) (s : mst) (p0 : Int32) (p1 : Int32) : Option (Int32 × mst) :=
    (G_M_isPlan N (wrI s 85 0 0) p0).bind fun r2 =>
    if r2.1 = 0 then
    G_M_sure_22 N r2.2
    else
    ((G_M_isIn N r2.2 p1 0 1).bind fun r4 =>
    if r4.1 = 0 then
    G_M_sure_22 N r4.2
    else
    ((rdA r4.2 100 7 p0).bind fun v5 =>
    G_M_sure_44 N p0 p1 N 0 ((1 <<< (v5 &&& 31)) - 1) 0 0 r4.2))
theorem sg_M_sure {h0 : Nat → pm_C} {B : Nat} {D : Nat → pd} {hi z N : Nat} (h : FX D hi) {p0 : Int32} {p1 : Int32} {s : mst} : F_M_sure N (mkM h0 B D hi z s) (B + 85) p0 p1 = (G_M_sure N s p0 p1).map (cvM h0 B D hi z) := by
  simp only [F_M_sure, G_M_sure, aim_100 h, rdm_85_20 h, sg_M_fits h, sg_M_isIn h, sg_M_isPlan h, wrm_85_0 h, sG_M_sure_22 h, sG_M_sure_111 h, sG_M_sure_92 h, sG_M_sure_44 h, rcm_85 h, Option.bind_some, Option.map_bind, Option.bind_map, Option.map_some, Option.map_none, Option.bind_none, apply_ite (Option.map _), if_true, Function.comp_def, cvM]
  all_goals rfl
def G_M_layFits_32 (N : Nat)   (s : mst) : Option mst :=
    some s
theorem sG_M_layFits_32 {h0 : Nat → pm_C} {B : Nat} {D : Nat → pd} {hi z N : Nat} (h : FX D hi)    {s : mst} : F_M_layFits_32 N   (mkM h0 B D hi z s) = (G_M_layFits_32 N   s).map (mkM h0 B D hi z) := by
  simp only [F_M_layFits_32, G_M_layFits_32, aim_100 h, rdm_85_20 h, rdm_85_48 h, sg_M_fits h, sim_122 h, Option.bind_some, Option.map_bind, Option.bind_map, Option.map_some, Option.map_none, Option.bind_none, apply_ite (Option.map _), if_true, Function.comp_def, cvM]
  all_goals rfl
def GB_M_layFits_2 (N : Nat)  (rec2 : Int32 → mst → Option mst) (x1 : Int32) (x2 : Int32) (s : mst) : Option mst :=
    (rdA s 100 7 x1).bind fun v1 =>
    if (1 <<< (v1 &&& 31)) ≤ x2 then
    G_M_layFits_32 N s
    else
    ((G_M_fits N s x1 x2).bind fun r3 =>
    (stA 3 r3.2 122 1024 x2 r3.1).bind fun s4 =>
    rec2 (x2 + 1) s4)
theorem sGB_M_layFits_2 {h0 : Nat → pm_C} {B : Nat} {D : Nat → pd} {hi z N : Nat} (h : FX D hi) {rec2 : Int32 → pm_S → Option pm_S} {grec2 : Int32 → mst → Option mst} (hrec2 : ∀ (y1 : Int32) (s : mst), rec2 y1 (mkM h0 B D hi z s) = (grec2 y1 s).map (mkM h0 B D hi z)) {x1 : Int32} {x2 : Int32} {s : mst} : B_M_layFits_2 N rec2 (B + 85) x1 x2 (mkM h0 B D hi z s) = (GB_M_layFits_2 N grec2 x1 x2 s).map (mkM h0 B D hi z) := by
  simp only [B_M_layFits_2, GB_M_layFits_2, aim_100 h, rdm_85_20 h, rdm_85_48 h, sg_M_fits h, sim_122 h, sG_M_layFits_32 h, hrec2, Option.bind_some, Option.map_bind, Option.bind_map, Option.map_some, Option.map_none, Option.bind_none, apply_ite (Option.map _), if_true, Function.comp_def, cvM]
  all_goals rfl
def G_M_layFits_2 (N : Nat)  (x1 : Int32) : Nat → Int32 → mst → Option mst
  | 0 => fun _ _ => none
  | n + 1 => fun x2 s => GB_M_layFits_2 N  (G_M_layFits_2 N  x1 n) x1 x2 s
theorem sG_M_layFits_2 {h0 : Nat → pm_C} {B : Nat} {D : Nat → pd} {hi z N : Nat} (h : FX D hi)   {x1 : Int32} : ∀ (n : Nat) (x2 : Int32) (s : mst), F_M_layFits_2 N  (B + 85) x1 n x2 (mkM h0 B D hi z s) = (G_M_layFits_2 N  x1 n x2 s).map (mkM h0 B D hi z) := by
  intro n
  induction n with
  | zero => intro x2 s; rfl
  | succ n ih => intro x2 s; exact sGB_M_layFits_2 h  ih
def G_M_layFits (N : Nat) (s : mst) (p0 : Int32) : Option mst :=
    G_M_layFits_2 N p0 N 0 s
theorem sg_M_layFits {h0 : Nat → pm_C} {B : Nat} {D : Nat → pd} {hi z N : Nat} (h : FX D hi) {p0 : Int32} {s : mst} : F_M_layFits N (mkM h0 B D hi z s) (B + 85) p0 = (G_M_layFits N s p0).map (mkM h0 B D hi z) := by
  simp only [F_M_layFits, G_M_layFits, aim_100 h, rdm_85_20 h, rdm_85_48 h, sg_M_fits h, sim_122 h, sG_M_layFits_32 h, sG_M_layFits_2 h, rcm_85 h, Option.bind_some, Option.map_bind, Option.bind_map, Option.map_some, Option.map_none, Option.bind_none, apply_ite (Option.map _), if_true, Function.comp_def, cvM]
  all_goals rfl
def G_M_layParts_155 (N : Nat)   (s : mst) : Option mst :=
    some s
theorem sG_M_layParts_155 {h0 : Nat → pm_C} {B : Nat} {D : Nat → pd} {hi z N : Nat} (h : FX D hi)    {s : mst} : F_M_layParts_155 N   (mkM h0 B D hi z s) = (G_M_layParts_155 N   s).map (mkM h0 B D hi z) := by
  simp only [F_M_layParts_155, G_M_layParts_155, aim_100 h, aim_122 h, aim_123 h, aim_124 h, rdm_85_20 h, rdm_85_48 h, rdm_85_49 h, rdm_85_50 h, rdm_85_51 h, rdm_85_52 h, sg_M_wouldIn h, sim_123 h, sim_124 h, wrm_85_51 h, wrm_85_52 h, Option.bind_some, Option.map_bind, Option.bind_map, Option.map_some, Option.map_none, Option.bind_none, apply_ite (Option.map _), if_true, Function.comp_def, cvM]
  all_goals rfl
def G_M_layParts_149 (N : Nat) (rec13 : Int32 → mst → Option mst) (x1 : Int32) (x2 : Int32) (x3 : Int32) (x4 : Int32) (s : mst) : Option mst :=
    rec13 (x4 + 1) s
theorem sG_M_layParts_149 {h0 : Nat → pm_C} {B : Nat} {D : Nat → pd} {hi z N : Nat} (h : FX D hi) {rec13 : Int32 → pm_S → Option pm_S} {grec13 : Int32 → mst → Option mst} (hrec13 : ∀ (y1 : Int32) (s : mst), rec13 y1 (mkM h0 B D hi z s) = (grec13 y1 s).map (mkM h0 B D hi z)) {x1 : Int32} {x2 : Int32} {x3 : Int32} {x4 : Int32} {s : mst} : F_M_layParts_149 N rec13 (B + 85) x1 x2 x3 x4 (mkM h0 B D hi z s) = (G_M_layParts_149 N grec13 x1 x2 x3 x4 s).map (mkM h0 B D hi z) := by
  simp only [F_M_layParts_149, G_M_layParts_149, aim_100 h, aim_122 h, aim_123 h, aim_124 h, rdm_85_20 h, rdm_85_48 h, rdm_85_49 h, rdm_85_50 h, rdm_85_51 h, rdm_85_52 h, sg_M_wouldIn h, sim_123 h, sim_124 h, wrm_85_51 h, wrm_85_52 h, sG_M_layParts_155 h, hrec13, Option.bind_some, Option.map_bind, Option.bind_map, Option.map_some, Option.map_none, Option.bind_none, apply_ite (Option.map _), if_true, Function.comp_def, cvM]
  all_goals rfl
def G_M_layParts_120 (N : Nat) (rec13 : Int32 → mst → Option mst) (x1 : Int32) (x2 : Int32) (x3 : Int32) (x4 : Int32) (x6 : Int32) (s : mst) : Option mst :=
    (rdA s 124 1024 x6).bind fun v7 =>
    (stA 0 s 124 1024 x6 (v7 + 1)).bind fun s8 =>
    (rdA s8 124 1024 x6).bind fun v9 =>
    G_M_layParts_149 N rec13 x1 x2 x3 x4 (wrI s8 85 52 (if (s8.1 85 52) < v9 then v9 else (s8.1 85 52)))
theorem sG_M_layParts_120 {h0 : Nat → pm_C} {B : Nat} {D : Nat → pd} {hi z N : Nat} (h : FX D hi) {rec13 : Int32 → pm_S → Option pm_S} {grec13 : Int32 → mst → Option mst} (hrec13 : ∀ (y1 : Int32) (s : mst), rec13 y1 (mkM h0 B D hi z s) = (grec13 y1 s).map (mkM h0 B D hi z)) {x1 : Int32} {x2 : Int32} {x3 : Int32} {x4 : Int32} {x6 : Int32} {s : mst} : F_M_layParts_120 N rec13 (B + 85) x1 x2 x3 x4 x6 (mkM h0 B D hi z s) = (G_M_layParts_120 N grec13 x1 x2 x3 x4 x6 s).map (mkM h0 B D hi z) := by
  simp only [F_M_layParts_120, G_M_layParts_120, aim_100 h, aim_122 h, aim_123 h, aim_124 h, rdm_85_20 h, rdm_85_48 h, rdm_85_49 h, rdm_85_50 h, rdm_85_51 h, rdm_85_52 h, sg_M_wouldIn h, sim_123 h, sim_124 h, wrm_85_51 h, wrm_85_52 h, sG_M_layParts_155 h, sG_M_layParts_149 h hrec13, hrec13, Option.bind_some, Option.map_bind, Option.bind_map, Option.map_some, Option.map_none, Option.bind_none, apply_ite (Option.map _), if_true, Function.comp_def, cvM]
  all_goals rfl
def G_M_layParts_80 (N : Nat) (rec13 : Int32 → mst → Option mst) (x1 : Int32) (x2 : Int32) (x3 : Int32) (x4 : Int32) (x5 : Int32) (x6 : Int32) (s : mst) : Option mst :=
    if x6 = (s.1 85 51) then
    ((stA 0 s 123 1024 (s.1 85 51) x5).bind fun s5 =>
    (stA 0 s5 124 1024 (s5.1 85 51) 0).bind fun s6 =>
    G_M_layParts_120 N rec13 x1 x2 x3 x4 x6 (wrI s6 85 51 ((s6.1 85 51) + 1)))
    else
    G_M_layParts_120 N rec13 x1 x2 x3 x4 x6 s
theorem sG_M_layParts_80 {h0 : Nat → pm_C} {B : Nat} {D : Nat → pd} {hi z N : Nat} (h : FX D hi) {rec13 : Int32 → pm_S → Option pm_S} {grec13 : Int32 → mst → Option mst} (hrec13 : ∀ (y1 : Int32) (s : mst), rec13 y1 (mkM h0 B D hi z s) = (grec13 y1 s).map (mkM h0 B D hi z)) {x1 : Int32} {x2 : Int32} {x3 : Int32} {x4 : Int32} {x5 : Int32} {x6 : Int32} {s : mst} : F_M_layParts_80 N rec13 (B + 85) x1 x2 x3 x4 x5 x6 (mkM h0 B D hi z s) = (G_M_layParts_80 N grec13 x1 x2 x3 x4 x5 x6 s).map (mkM h0 B D hi z) := by
  simp only [F_M_layParts_80, G_M_layParts_80, aim_100 h, aim_122 h, aim_123 h, aim_124 h, rdm_85_20 h, rdm_85_48 h, rdm_85_49 h, rdm_85_50 h, rdm_85_51 h, rdm_85_52 h, sg_M_wouldIn h, sim_123 h, sim_124 h, wrm_85_51 h, wrm_85_52 h, sG_M_layParts_155 h, sG_M_layParts_149 h hrec13, sG_M_layParts_120 h hrec13, hrec13, Option.bind_some, Option.map_bind, Option.bind_map, Option.map_some, Option.map_none, Option.bind_none, apply_ite (Option.map _), if_true, Function.comp_def, cvM]
  all_goals rfl
def GB_M_layParts_53 (N : Nat) (rec13 : Int32 → mst → Option mst) (rec53 : Int32 → mst → Option mst) (x1 : Int32) (x2 : Int32) (x3 : Int32) (x4 : Int32) (x5 : Int32) (x6 : Int32) (s : mst) : Option mst :=
    if (s.1 85 51) ≤ x6 then
    G_M_layParts_80 N rec13 x1 x2 x3 x4 x5 x6 s
    else
    ((rdA s 123 1024 x6).bind fun v10 =>
    if v10 = x5 then
    G_M_layParts_80 N rec13 x1 x2 x3 x4 x5 x6 s
    else
    rec53 (x6 + 1) s)
theorem sGB_M_layParts_53 {h0 : Nat → pm_C} {B : Nat} {D : Nat → pd} {hi z N : Nat} (h : FX D hi) {rec13 : Int32 → pm_S → Option pm_S} {grec13 : Int32 → mst → Option mst} {rec53 : Int32 → pm_S → Option pm_S} {grec53 : Int32 → mst → Option mst} (hrec13 : ∀ (y1 : Int32) (s : mst), rec13 y1 (mkM h0 B D hi z s) = (grec13 y1 s).map (mkM h0 B D hi z)) (hrec53 : ∀ (y1 : Int32) (s : mst), rec53 y1 (mkM h0 B D hi z s) = (grec53 y1 s).map (mkM h0 B D hi z)) {x1 : Int32} {x2 : Int32} {x3 : Int32} {x4 : Int32} {x5 : Int32} {x6 : Int32} {s : mst} : B_M_layParts_53 N rec13 rec53 (B + 85) x1 x2 x3 x4 x5 x6 (mkM h0 B D hi z s) = (GB_M_layParts_53 N grec13 grec53 x1 x2 x3 x4 x5 x6 s).map (mkM h0 B D hi z) := by
  simp only [B_M_layParts_53, GB_M_layParts_53, aim_100 h, aim_122 h, aim_123 h, aim_124 h, rdm_85_20 h, rdm_85_48 h, rdm_85_49 h, rdm_85_50 h, rdm_85_51 h, rdm_85_52 h, sg_M_wouldIn h, sim_123 h, sim_124 h, wrm_85_51 h, wrm_85_52 h, sG_M_layParts_155 h, sG_M_layParts_149 h hrec13, sG_M_layParts_120 h hrec13, sG_M_layParts_80 h hrec13, hrec13, hrec53, Option.bind_some, Option.map_bind, Option.bind_map, Option.map_some, Option.map_none, Option.bind_none, apply_ite (Option.map _), if_true, Function.comp_def, cvM]
  all_goals rfl
def G_M_layParts_53 (N : Nat) (rec13 : Int32 → mst → Option mst) (x1 : Int32) (x2 : Int32) (x3 : Int32) (x4 : Int32) (x5 : Int32) : Nat → Int32 → mst → Option mst
  | 0 => fun _ _ => none
  | n + 1 => fun x6 s => GB_M_layParts_53 N rec13 (G_M_layParts_53 N rec13 x1 x2 x3 x4 x5 n) x1 x2 x3 x4 x5 x6 s
theorem sG_M_layParts_53 {h0 : Nat → pm_C} {B : Nat} {D : Nat → pd} {hi z N : Nat} (h : FX D hi) {rec13 : Int32 → pm_S → Option pm_S} {grec13 : Int32 → mst → Option mst} (hrec13 : ∀ (y1 : Int32) (s : mst), rec13 y1 (mkM h0 B D hi z s) = (grec13 y1 s).map (mkM h0 B D hi z)) {x1 : Int32} {x2 : Int32} {x3 : Int32} {x4 : Int32} {x5 : Int32} : ∀ (n : Nat) (x6 : Int32) (s : mst), F_M_layParts_53 N rec13 (B + 85) x1 x2 x3 x4 x5 n x6 (mkM h0 B D hi z s) = (G_M_layParts_53 N grec13 x1 x2 x3 x4 x5 n x6 s).map (mkM h0 B D hi z) := by
  intro n
  induction n with
  | zero => intro x6 s; rfl
  | succ n ih => intro x6 s; exact sGB_M_layParts_53 h hrec13 ih
def GB_M_layParts_13 (N : Nat)  (rec13 : Int32 → mst → Option mst) (x1 : Int32) (x2 : Int32) (x3 : Int32) (x4 : Int32) (s : mst) : Option mst :=
    (rdA s 100 7 x1).bind fun v1 =>
    if (1 <<< (v1 &&& 31)) ≤ x4 then
    G_M_layParts_155 N s
    else
    ((rdA s 122 1024 x4).bind fun v2 =>
    if v2 = 0 then
    G_M_layParts_149 N rec13 x1 x2 x3 x4 s
    else
    ((G_M_wouldIn N s x1 x2 x4 x3).bind fun r4 =>
    G_M_layParts_53 N rec13 x1 x2 x3 x4 r4.1 N 0 r4.2))
theorem sGB_M_layParts_13 {h0 : Nat → pm_C} {B : Nat} {D : Nat → pd} {hi z N : Nat} (h : FX D hi) {rec13 : Int32 → pm_S → Option pm_S} {grec13 : Int32 → mst → Option mst} (hrec13 : ∀ (y1 : Int32) (s : mst), rec13 y1 (mkM h0 B D hi z s) = (grec13 y1 s).map (mkM h0 B D hi z)) {x1 : Int32} {x2 : Int32} {x3 : Int32} {x4 : Int32} {s : mst} : B_M_layParts_13 N rec13 (B + 85) x1 x2 x3 x4 (mkM h0 B D hi z s) = (GB_M_layParts_13 N grec13 x1 x2 x3 x4 s).map (mkM h0 B D hi z) := by
  simp only [B_M_layParts_13, GB_M_layParts_13, aim_100 h, aim_122 h, aim_123 h, aim_124 h, rdm_85_20 h, rdm_85_48 h, rdm_85_49 h, rdm_85_50 h, rdm_85_51 h, rdm_85_52 h, sg_M_wouldIn h, sim_123 h, sim_124 h, wrm_85_51 h, wrm_85_52 h, sG_M_layParts_155 h, sG_M_layParts_149 h hrec13, sG_M_layParts_120 h hrec13, sG_M_layParts_80 h hrec13, sG_M_layParts_53 h hrec13, hrec13, Option.bind_some, Option.map_bind, Option.bind_map, Option.map_some, Option.map_none, Option.bind_none, apply_ite (Option.map _), if_true, Function.comp_def, cvM]
  all_goals rfl
def G_M_layParts_13 (N : Nat)  (x1 : Int32) (x2 : Int32) (x3 : Int32) : Nat → Int32 → mst → Option mst
  | 0 => fun _ _ => none
  | n + 1 => fun x4 s => GB_M_layParts_13 N  (G_M_layParts_13 N  x1 x2 x3 n) x1 x2 x3 x4 s
theorem sG_M_layParts_13 {h0 : Nat → pm_C} {B : Nat} {D : Nat → pd} {hi z N : Nat} (h : FX D hi)   {x1 : Int32} {x2 : Int32} {x3 : Int32} : ∀ (n : Nat) (x4 : Int32) (s : mst), F_M_layParts_13 N  (B + 85) x1 x2 x3 n x4 (mkM h0 B D hi z s) = (G_M_layParts_13 N  x1 x2 x3 n x4 s).map (mkM h0 B D hi z) := by
  intro n
  induction n with
  | zero => intro x4 s; rfl
  | succ n ih => intro x4 s; exact sGB_M_layParts_13 h  ih
def G_M_layParts (N : Nat) (s : mst) (p0 : Int32) (p1 : Int32) (p2 : Int32) : Option mst :=
    G_M_layParts_13 N p0 p1 p2 N 0 (wrI (wrI s 85 51 0) 85 52 0)
theorem sg_M_layParts {h0 : Nat → pm_C} {B : Nat} {D : Nat → pd} {hi z N : Nat} (h : FX D hi) {p0 : Int32} {p1 : Int32} {p2 : Int32} {s : mst} : F_M_layParts N (mkM h0 B D hi z s) (B + 85) p0 p1 p2 = (G_M_layParts N s p0 p1 p2).map (mkM h0 B D hi z) := by
  simp only [F_M_layParts, G_M_layParts, aim_100 h, aim_122 h, aim_123 h, aim_124 h, rdm_85_20 h, rdm_85_48 h, rdm_85_49 h, rdm_85_50 h, rdm_85_51 h, rdm_85_52 h, sg_M_wouldIn h, sim_123 h, sim_124 h, wrm_85_51 h, wrm_85_52 h, sG_M_layParts_155 h, sG_M_layParts_13 h, rcm_85 h, Option.bind_some, Option.map_bind, Option.bind_map, Option.map_some, Option.map_none, Option.bind_none, apply_ite (Option.map _), if_true, Function.comp_def, cvM]
  all_goals rfl
def G_M_parts_24 (N : Nat)   (s : mst) : Option (Int32 × mst) :=
    some ((-1), s)
theorem sG_M_parts_24 {h0 : Nat → pm_C} {B : Nat} {D : Nat → pd} {hi z N : Nat} (h : FX D hi)    {s : mst} : F_M_parts_24 N   (mkM h0 B D hi z s) = (G_M_parts_24 N   s).map (cvM h0 B D hi z) := by
  simp only [F_M_parts_24, G_M_parts_24, rdm_85_51 h, rdm_85_52 h, sg_M_isIn h, sg_M_isTest h, sg_M_layFits h, sg_M_layParts h, wrm_85_0 h, Option.bind_some, Option.map_bind, Option.bind_map, Option.map_some, Option.map_none, Option.bind_none, apply_ite (Option.map _), if_true, Function.comp_def, cvM]
  all_goals rfl
def G_M_parts_54 (N : Nat)  (t0 : Int32) (s : mst) : Option (Int32 × mst) :=
    some (t0, s)
theorem sG_M_parts_54 {h0 : Nat → pm_C} {B : Nat} {D : Nat → pd} {hi z N : Nat} (h : FX D hi)   {t0 : Int32} {s : mst} : F_M_parts_54 N  t0 (mkM h0 B D hi z s) = (G_M_parts_54 N  t0 s).map (cvM h0 B D hi z) := by
  simp only [F_M_parts_54, G_M_parts_54, rdm_85_51 h, rdm_85_52 h, sg_M_isIn h, sg_M_isTest h, sg_M_layFits h, sg_M_layParts h, wrm_85_0 h, sG_M_parts_24 h, Option.bind_some, Option.map_bind, Option.bind_map, Option.map_some, Option.map_none, Option.bind_none, apply_ite (Option.map _), if_true, Function.comp_def, cvM]
  all_goals rfl
def G_M_parts (N : Nat) (s : mst) (p0 : Int32) (p1 : Int32) (p2 : Int32) (p3 : Int32) : Option (Int32 × mst) :=
    (G_M_isTest N (wrI s 85 0 0) p0 p1).bind fun r2 =>
    if r2.1 = 0 then
    G_M_parts_24 N r2.2
    else
    ((G_M_isIn N r2.2 p3 0 1).bind fun r4 =>
    if r4.1 = 0 then
    G_M_parts_24 N r4.2
    else
    ((G_M_layFits N r4.2 p0).bind fun s5 =>
    (G_M_layParts N s5 p0 p1 p2).bind fun s6 =>
    if p3 = 0 then
    G_M_parts_54 N (s6.1 85 52) s6
    else
    G_M_parts_54 N (s6.1 85 51) s6))
theorem sg_M_parts {h0 : Nat → pm_C} {B : Nat} {D : Nat → pd} {hi z N : Nat} (h : FX D hi) {p0 : Int32} {p1 : Int32} {p2 : Int32} {p3 : Int32} {s : mst} : F_M_parts N (mkM h0 B D hi z s) (B + 85) p0 p1 p2 p3 = (G_M_parts N s p0 p1 p2 p3).map (cvM h0 B D hi z) := by
  simp only [F_M_parts, G_M_parts, rdm_85_51 h, rdm_85_52 h, sg_M_isIn h, sg_M_isTest h, sg_M_layFits h, sg_M_layParts h, wrm_85_0 h, sG_M_parts_24 h, sG_M_parts_54 h, rcm_85 h, Option.bind_some, Option.map_bind, Option.bind_map, Option.map_some, Option.map_none, Option.bind_none, apply_ite (Option.map _), if_true, Function.comp_def, cvM]
  all_goals rfl
def G_M_up_27 (N : Nat)  (t0 : Int32) (s : mst) : Option (Int32 × mst) :=
    some (t0, s)
theorem sG_M_up_27 {h0 : Nat → pm_C} {B : Nat} {D : Nat → pd} {hi z N : Nat} (h : FX D hi)   {t0 : Int32} {s : mst} : F_M_up_27 N  t0 (mkM h0 B D hi z s) = (G_M_up_27 N  t0 s).map (cvM h0 B D hi z) := by
  simp only [F_M_up_27, G_M_up_27, aim_89 h, rdm_85_8 h, sg_M_comesTo h, Option.bind_some, Option.map_bind, Option.bind_map, Option.map_some, Option.map_none, Option.bind_none, apply_ite (Option.map _), if_true, Function.comp_def, cvM]
  all_goals rfl
def G_M_up (N : Nat) (s : mst) (p0 : Int32) (p1 : Int32) : Option (Int32 × mst) :=
    (G_M_comesTo N s p0 p1).bind fun r2 =>
    if r2.1 = (-1) then
    G_M_up_27 N (-1) r2.2
    else
    ((rdA r2.2 89 49 ((7 * p0) + r2.1)).bind fun v3 =>
    G_M_up_27 N v3 r2.2)
theorem sg_M_up {h0 : Nat → pm_C} {B : Nat} {D : Nat → pd} {hi z N : Nat} (h : FX D hi) {p0 : Int32} {p1 : Int32} {s : mst} : F_M_up N (mkM h0 B D hi z s) (B + 85) p0 p1 = (G_M_up N s p0 p1).map (cvM h0 B D hi z) := by
  simp only [F_M_up, G_M_up, aim_89 h, rdm_85_8 h, sg_M_comesTo h, sG_M_up_27 h, rcm_85 h, Option.bind_some, Option.map_bind, Option.bind_map, Option.map_some, Option.map_none, Option.bind_none, apply_ite (Option.map _), if_true, Function.comp_def, cvM]
  all_goals rfl
def G_M_upTo_58 (N : Nat)  (x4 : Int32) (s : mst) : Option (Int32 × mst) :=
    some (x4, s)
theorem sG_M_upTo_58 {h0 : Nat → pm_C} {B : Nat} {D : Nat → pd} {hi z N : Nat} (h : FX D hi)   {x4 : Int32} {s : mst} : F_M_upTo_58 N  x4 (mkM h0 B D hi z s) = (G_M_upTo_58 N  x4 s).map (cvM h0 B D hi z) := by
  simp only [F_M_upTo_58, G_M_upTo_58, aim_92 h, rdm_85_11 h, sg_M_comesTo h, sg_M_up h, Option.bind_some, Option.map_bind, Option.bind_map, Option.map_some, Option.map_none, Option.bind_none, apply_ite (Option.map _), if_true, Function.comp_def, cvM]
  all_goals rfl
def G_M_upTo_27 (N : Nat)   (s : mst) : Option (Int32 × mst) :=
    some ((-1), s)
theorem sG_M_upTo_27 {h0 : Nat → pm_C} {B : Nat} {D : Nat → pd} {hi z N : Nat} (h : FX D hi)    {s : mst} : F_M_upTo_27 N   (mkM h0 B D hi z s) = (G_M_upTo_27 N   s).map (cvM h0 B D hi z) := by
  simp only [F_M_upTo_27, G_M_upTo_27, aim_92 h, rdm_85_11 h, sg_M_comesTo h, sg_M_up h, sG_M_upTo_58 h, Option.bind_some, Option.map_bind, Option.bind_map, Option.map_some, Option.map_none, Option.bind_none, apply_ite (Option.map _), if_true, Function.comp_def, cvM]
  all_goals rfl
def GB_M_upTo_6 (N : Nat)  (rec6 : Int32 → Int32 → mst → Option (Int32 × mst)) (x1 : Int32) (x3 : Int32) (x4 : Int32) (x5 : Int32) (s : mst) : Option (Int32 × mst) :=
    if x5 = x3 then
    G_M_upTo_58 N x4 s
    else
    ((G_M_comesTo N s x1 x5).bind fun r2 =>
    if r2.1 = (-1) then
    G_M_upTo_27 N r2.2
    else
    ((rdA r2.2 92 49 ((7 * x1) + r2.1)).bind fun v3 =>
    (G_M_up N r2.2 x1 x5).bind fun r5 =>
    rec6 (x4 + v3) r5.1 r5.2))
theorem sGB_M_upTo_6 {h0 : Nat → pm_C} {B : Nat} {D : Nat → pd} {hi z N : Nat} (h : FX D hi) {rec6 : Int32 → Int32 → pm_S → Option (Int32 × pm_S)} {grec6 : Int32 → Int32 → mst → Option (Int32 × mst)} (hrec6 : ∀ (y1 : Int32) (y2 : Int32) (s : mst), rec6 y1 y2 (mkM h0 B D hi z s) = (grec6 y1 y2 s).map (cvM h0 B D hi z)) {x1 : Int32} {x3 : Int32} {x4 : Int32} {x5 : Int32} {s : mst} : B_M_upTo_6 N rec6 (B + 85) x1 x3 x4 x5 (mkM h0 B D hi z s) = (GB_M_upTo_6 N grec6 x1 x3 x4 x5 s).map (cvM h0 B D hi z) := by
  simp only [B_M_upTo_6, GB_M_upTo_6, aim_92 h, rdm_85_11 h, sg_M_comesTo h, sg_M_up h, sG_M_upTo_58 h, sG_M_upTo_27 h, hrec6, Option.bind_some, Option.map_bind, Option.bind_map, Option.map_some, Option.map_none, Option.bind_none, apply_ite (Option.map _), if_true, Function.comp_def, cvM]
  all_goals rfl
def G_M_upTo_6 (N : Nat)  (x1 : Int32) (x3 : Int32) : Nat → Int32 → Int32 → mst → Option (Int32 × mst)
  | 0 => fun _ _ _ => none
  | n + 1 => fun x4 x5 s => GB_M_upTo_6 N  (G_M_upTo_6 N  x1 x3 n) x1 x3 x4 x5 s
theorem sG_M_upTo_6 {h0 : Nat → pm_C} {B : Nat} {D : Nat → pd} {hi z N : Nat} (h : FX D hi)   {x1 : Int32} {x3 : Int32} : ∀ (n : Nat) (x4 : Int32) (x5 : Int32) (s : mst), F_M_upTo_6 N  (B + 85) x1 x3 n x4 x5 (mkM h0 B D hi z s) = (G_M_upTo_6 N  x1 x3 n x4 x5 s).map (cvM h0 B D hi z) := by
  intro n
  induction n with
  | zero => intro x4 x5 s; rfl
  | succ n ih => intro x4 x5 s; exact sGB_M_upTo_6 h  ih
def G_M_upTo (N : Nat) (s : mst) (p0 : Int32) (p1 : Int32) (p2 : Int32) : Option (Int32 × mst) :=
    G_M_upTo_6 N p0 p2 N 0 p1 s
theorem sg_M_upTo {h0 : Nat → pm_C} {B : Nat} {D : Nat → pd} {hi z N : Nat} (h : FX D hi) {p0 : Int32} {p1 : Int32} {p2 : Int32} {s : mst} : F_M_upTo N (mkM h0 B D hi z s) (B + 85) p0 p1 p2 = (G_M_upTo N s p0 p1 p2).map (cvM h0 B D hi z) := by
  simp only [F_M_upTo, G_M_upTo, aim_92 h, rdm_85_11 h, sg_M_comesTo h, sg_M_up h, sG_M_upTo_58 h, sG_M_upTo_27 h, sG_M_upTo_6 h, rcm_85 h, Option.bind_some, Option.map_bind, Option.bind_map, Option.map_some, Option.map_none, Option.bind_none, apply_ite (Option.map _), if_true, Function.comp_def, cvM]
  all_goals rfl
def G_M_walkOf_49 (N : Nat)   (s : mst) : Option (Int32 × mst) :=
    some ((-1), s)
theorem sG_M_walkOf_49 {h0 : Nat → pm_C} {B : Nat} {D : Nat → pd} {hi z N : Nat} (h : FX D hi)    {s : mst} : F_M_walkOf_49 N   (mkM h0 B D hi z s) = (G_M_walkOf_49 N   s).map (cvM h0 B D hi z) := by
  simp only [F_M_walkOf_49, G_M_walkOf_49, sg_M_up h, sg_M_upTo h, Option.bind_some, Option.map_bind, Option.bind_map, Option.map_some, Option.map_none, Option.bind_none, apply_ite (Option.map _), if_true, Function.comp_def, cvM]
  all_goals rfl
def G_M_walkOf_25 (N : Nat)  (x1 : Int32) (x2 : Int32) (x4 : Int32) (x5 : Int32) (s : mst) : Option (Int32 × mst) :=
    (G_M_upTo N s x1 x2 x4).bind fun r6 =>
    some (x5 + r6.1, r6.2)
theorem sG_M_walkOf_25 {h0 : Nat → pm_C} {B : Nat} {D : Nat → pd} {hi z N : Nat} (h : FX D hi)   {x1 : Int32} {x2 : Int32} {x4 : Int32} {x5 : Int32} {s : mst} : F_M_walkOf_25 N  (B + 85) x1 x2 x4 x5 (mkM h0 B D hi z s) = (G_M_walkOf_25 N  x1 x2 x4 x5 s).map (cvM h0 B D hi z) := by
  simp only [F_M_walkOf_25, G_M_walkOf_25, sg_M_up h, sg_M_upTo h, sG_M_walkOf_49 h, Option.bind_some, Option.map_bind, Option.bind_map, Option.map_some, Option.map_none, Option.bind_none, apply_ite (Option.map _), if_true, Function.comp_def, cvM]
  all_goals rfl
def GB_M_walkOf_3 (N : Nat)  (rec3 : Int32 → mst → Option (Int32 × mst)) (x1 : Int32) (x2 : Int32) (x3 : Int32) (x4 : Int32) (s : mst) : Option (Int32 × mst) :=
    if x4 = (-1) then
    G_M_walkOf_49 N s
    else
    ((G_M_upTo N s x1 x3 x4).bind fun r2 =>
    if r2.1 = (-1) then
    ((G_M_up N r2.2 x1 x4).bind fun r4 =>
    rec3 r4.1 r4.2)
    else
    G_M_walkOf_25 N x1 x2 x4 r2.1 r2.2)
theorem sGB_M_walkOf_3 {h0 : Nat → pm_C} {B : Nat} {D : Nat → pd} {hi z N : Nat} (h : FX D hi) {rec3 : Int32 → pm_S → Option (Int32 × pm_S)} {grec3 : Int32 → mst → Option (Int32 × mst)} (hrec3 : ∀ (y1 : Int32) (s : mst), rec3 y1 (mkM h0 B D hi z s) = (grec3 y1 s).map (cvM h0 B D hi z)) {x1 : Int32} {x2 : Int32} {x3 : Int32} {x4 : Int32} {s : mst} : B_M_walkOf_3 N rec3 (B + 85) x1 x2 x3 x4 (mkM h0 B D hi z s) = (GB_M_walkOf_3 N grec3 x1 x2 x3 x4 s).map (cvM h0 B D hi z) := by
  simp only [B_M_walkOf_3, GB_M_walkOf_3, sg_M_up h, sg_M_upTo h, sG_M_walkOf_49 h, sG_M_walkOf_25 h, hrec3, Option.bind_some, Option.map_bind, Option.bind_map, Option.map_some, Option.map_none, Option.bind_none, apply_ite (Option.map _), if_true, Function.comp_def, cvM]
  all_goals rfl
def G_M_walkOf_3 (N : Nat)  (x1 : Int32) (x2 : Int32) (x3 : Int32) : Nat → Int32 → mst → Option (Int32 × mst)
  | 0 => fun _ _ => none
  | n + 1 => fun x4 s => GB_M_walkOf_3 N  (G_M_walkOf_3 N  x1 x2 x3 n) x1 x2 x3 x4 s
theorem sG_M_walkOf_3 {h0 : Nat → pm_C} {B : Nat} {D : Nat → pd} {hi z N : Nat} (h : FX D hi)   {x1 : Int32} {x2 : Int32} {x3 : Int32} : ∀ (n : Nat) (x4 : Int32) (s : mst), F_M_walkOf_3 N  (B + 85) x1 x2 x3 n x4 (mkM h0 B D hi z s) = (G_M_walkOf_3 N  x1 x2 x3 n x4 s).map (cvM h0 B D hi z) := by
  intro n
  induction n with
  | zero => intro x4 s; rfl
  | succ n ih => intro x4 s; exact sGB_M_walkOf_3 h  ih
def G_M_walkOf (N : Nat) (s : mst) (p0 : Int32) (p1 : Int32) (p2 : Int32) : Option (Int32 × mst) :=
    G_M_walkOf_3 N p0 p1 p2 N p1 s
theorem sg_M_walkOf {h0 : Nat → pm_C} {B : Nat} {D : Nat → pd} {hi z N : Nat} (h : FX D hi) {p0 : Int32} {p1 : Int32} {p2 : Int32} {s : mst} : F_M_walkOf N (mkM h0 B D hi z s) (B + 85) p0 p1 p2 = (G_M_walkOf N s p0 p1 p2).map (cvM h0 B D hi z) := by
  simp only [F_M_walkOf, G_M_walkOf, sg_M_up h, sg_M_upTo h, sG_M_walkOf_49 h, sG_M_walkOf_25 h, sG_M_walkOf_3 h, rcm_85 h, Option.bind_some, Option.map_bind, Option.bind_map, Option.map_some, Option.map_none, Option.bind_none, apply_ite (Option.map _), if_true, Function.comp_def, cvM]
  all_goals rfl
def G_M_walk_56 (N : Nat)  (t0 : Int32) (s : mst) : Option (Int32 × mst) :=
    some (t0, s)
theorem sG_M_walk_56 {h0 : Nat → pm_C} {B : Nat} {D : Nat → pd} {hi z N : Nat} (h : FX D hi)   {t0 : Int32} {s : mst} : F_M_walk_56 N  t0 (mkM h0 B D hi z s) = (G_M_walk_56 N  t0 s).map (cvM h0 B D hi z) := by
  simp only [F_M_walk_56, G_M_walk_56, aim_87 h, rdm_85_6 h, sg_M_isIn h, sg_M_isPlan h, sg_M_walkOf h, wrm_85_0 h, Option.bind_some, Option.map_bind, Option.bind_map, Option.map_some, Option.map_none, Option.bind_none, apply_ite (Option.map _), if_true, Function.comp_def, cvM]
  all_goals rfl
def G_M_walk_55 (N : Nat)   (s : mst) : Option (Int32 × mst) :=
    G_M_walk_56 N (-1) s
theorem sG_M_walk_55 {h0 : Nat → pm_C} {B : Nat} {D : Nat → pd} {hi z N : Nat} (h : FX D hi)    {s : mst} : F_M_walk_55 N   (mkM h0 B D hi z s) = (G_M_walk_55 N   s).map (cvM h0 B D hi z) := by
  simp only [F_M_walk_55, G_M_walk_55, aim_87 h, rdm_85_6 h, sg_M_isIn h, sg_M_isPlan h, sg_M_walkOf h, wrm_85_0 h, sG_M_walk_56 h, Option.bind_some, Option.map_bind, Option.bind_map, Option.map_some, Option.map_none, Option.bind_none, apply_ite (Option.map _), if_true, Function.comp_def, cvM]
  all_goals rfl
def G_M_walk (N : Nat) (s : mst) (p0 : Int32) (p1 : Int32) (p2 : Int32) : Option (Int32 × mst) :=
    (G_M_isPlan N (wrI s 85 0 0) p0).bind fun r2 =>
    if r2.1 = 0 then
    G_M_walk_55 N r2.2
    else
    ((rdA r2.2 87 7 p0).bind fun v3 =>
    (G_M_isIn N r2.2 p1 0 (v3 - 1)).bind fun r5 =>
    if r5.1 = 0 then
    G_M_walk_55 N r5.2
    else
    ((rdA r5.2 87 7 p0).bind fun v6 =>
    (G_M_isIn N r5.2 p2 0 (v6 - 1)).bind fun r8 =>
    if r8.1 = 0 then
    G_M_walk_55 N r8.2
    else
    ((G_M_walkOf N r8.2 p0 p1 p2).bind fun r10 =>
    G_M_walk_56 N r10.1 r10.2)))
theorem sg_M_walk {h0 : Nat → pm_C} {B : Nat} {D : Nat → pd} {hi z N : Nat} (h : FX D hi) {p0 : Int32} {p1 : Int32} {p2 : Int32} {s : mst} : F_M_walk N (mkM h0 B D hi z s) (B + 85) p0 p1 p2 = (G_M_walk N s p0 p1 p2).map (cvM h0 B D hi z) := by
  simp only [F_M_walk, G_M_walk, aim_87 h, rdm_85_6 h, sg_M_isIn h, sg_M_isPlan h, sg_M_walkOf h, wrm_85_0 h, sG_M_walk_56 h, sG_M_walk_55 h, rcm_85 h, Option.bind_some, Option.map_bind, Option.bind_map, Option.map_some, Option.map_none, Option.bind_none, apply_ite (Option.map _), if_true, Function.comp_def, cvM]
  all_goals rfl
def G_M_boxOf_82 (N : Nat)  (t0 : Int32) (s : mst) : Option (Int32 × mst) :=
    some (t0, s)
theorem sG_M_boxOf_82 {h0 : Nat → pm_C} {B : Nat} {D : Nat → pd} {hi z N : Nat} (h : FX D hi)   {t0 : Int32} {s : mst} : F_M_boxOf_82 N  t0 (mkM h0 B D hi z s) = (G_M_boxOf_82 N  t0 s).map (cvM h0 B D hi z) := by
  simp only [F_M_boxOf_82, G_M_boxOf_82, aim_112 h, aim_113 h, aim_115 h, aim_116 h, aim_117 h, aim_89 h, aim_90 h, rdm_85_38 h, rdm_85_39 h, rdm_85_41 h, rdm_85_42 h, rdm_85_43 h, rdm_85_8 h, rdm_85_9 h, Option.bind_some, Option.map_bind, Option.bind_map, Option.map_some, Option.map_none, Option.bind_none, apply_ite (Option.map _), if_true, Function.comp_def, cvM]
  all_goals rfl
def G_M_boxOf_62 (N : Nat)  (x4 : Int32) (t0 : Int32) (s : mst) : Option (Int32 × mst) :=
    if t0 = 0 then
    ((rdA s 89 49 x4).bind fun v5 =>
    G_M_boxOf_82 N v5 s)
    else
    ((rdA s 90 49 x4).bind fun v6 =>
    G_M_boxOf_82 N v6 s)
theorem sG_M_boxOf_62 {h0 : Nat → pm_C} {B : Nat} {D : Nat → pd} {hi z N : Nat} (h : FX D hi)   {x4 : Int32} {t0 : Int32} {s : mst} : F_M_boxOf_62 N  (B + 85) x4 t0 (mkM h0 B D hi z s) = (G_M_boxOf_62 N  x4 t0 s).map (cvM h0 B D hi z) := by
  simp only [F_M_boxOf_62, G_M_boxOf_62, aim_112 h, aim_113 h, aim_115 h, aim_116 h, aim_117 h, aim_89 h, aim_90 h, rdm_85_38 h, rdm_85_39 h, rdm_85_41 h, rdm_85_42 h, rdm_85_43 h, rdm_85_8 h, rdm_85_9 h, sG_M_boxOf_82 h, Option.bind_some, Option.map_bind, Option.bind_map, Option.map_some, Option.map_none, Option.bind_none, apply_ite (Option.map _), if_true, Function.comp_def, cvM]
  all_goals rfl
def G_M_boxOf_35 (N : Nat)  (x3 : Int32) (t0 : Int32) (t1 : Int32) (s : mst) : Option (Int32 × mst) :=
    (rdA s 112 72 x3).bind fun v3 =>
    if v3 = 0 then
    ((rdA s 117 72 x3).bind fun v4 =>
    G_M_boxOf_62 N (t1 + t0) v4 s)
    else
    ((rdA s 115 72 x3).bind fun v7 =>
    G_M_boxOf_62 N (t1 + t0) v7 s)
theorem sG_M_boxOf_35 {h0 : Nat → pm_C} {B : Nat} {D : Nat → pd} {hi z N : Nat} (h : FX D hi)   {x3 : Int32} {t0 : Int32} {t1 : Int32} {s : mst} : F_M_boxOf_35 N  (B + 85) x3 t0 t1 (mkM h0 B D hi z s) = (G_M_boxOf_35 N  x3 t0 t1 s).map (cvM h0 B D hi z) := by
  simp only [F_M_boxOf_35, G_M_boxOf_35, aim_112 h, aim_113 h, aim_115 h, aim_116 h, aim_117 h, aim_89 h, aim_90 h, rdm_85_38 h, rdm_85_39 h, rdm_85_41 h, rdm_85_42 h, rdm_85_43 h, rdm_85_8 h, rdm_85_9 h, sG_M_boxOf_82 h, sG_M_boxOf_62 h, Option.bind_some, Option.map_bind, Option.bind_map, Option.map_some, Option.map_none, Option.bind_none, apply_ite (Option.map _), if_true, Function.comp_def, cvM]
  all_goals rfl
def G_M_boxOf (N : Nat) (s : mst) (p0 : Int32) (p1 : Int32) : Option (Int32 × mst) :=
    (rdA s 112 72 ((12 * p0) + p1)).bind fun v1 =>
    if v1 = 0 then
    ((rdA s 116 72 ((12 * p0) + p1)).bind fun v2 =>
    G_M_boxOf_35 N ((12 * p0) + p1) v2 (7 * p0) s)
    else
    ((rdA s 113 72 ((12 * p0) + p1)).bind fun v8 =>
    G_M_boxOf_35 N ((12 * p0) + p1) v8 (7 * p0) s)
theorem sg_M_boxOf {h0 : Nat → pm_C} {B : Nat} {D : Nat → pd} {hi z N : Nat} (h : FX D hi) {p0 : Int32} {p1 : Int32} {s : mst} : F_M_boxOf N (mkM h0 B D hi z s) (B + 85) p0 p1 = (G_M_boxOf N s p0 p1).map (cvM h0 B D hi z) := by
  simp only [F_M_boxOf, G_M_boxOf, aim_112 h, aim_113 h, aim_115 h, aim_116 h, aim_117 h, aim_89 h, aim_90 h, rdm_85_38 h, rdm_85_39 h, rdm_85_41 h, rdm_85_42 h, rdm_85_43 h, rdm_85_8 h, rdm_85_9 h, sG_M_boxOf_82 h, sG_M_boxOf_62 h, sG_M_boxOf_35 h, rcm_85 h, Option.bind_some, Option.map_bind, Option.bind_map, Option.map_some, Option.map_none, Option.bind_none, apply_ite (Option.map _), if_true, Function.comp_def, cvM]
  all_goals rfl
def G_M_next_34 (N : Nat)   (s : mst) : Option (Int32 × mst) :=
    some ((-1), s)
theorem sG_M_next_34 {h0 : Nat → pm_C} {B : Nat} {D : Nat → pd} {hi z N : Nat} (h : FX D hi)    {s : mst} : F_M_next_34 N   (mkM h0 B D hi z s) = (G_M_next_34 N   s).map (cvM h0 B D hi z) := by
  simp only [F_M_next_34, G_M_next_34, aim_111 h, aim_87 h, rdm_85_37 h, rdm_85_52 h, rdm_85_6 h, sg_M_boxOf h, sg_M_isIn h, sg_M_isPlan h, sg_M_layFits h, sg_M_layParts h, sg_M_walkOf h, wrm_85_0 h, Option.bind_some, Option.map_bind, Option.bind_map, Option.map_some, Option.map_none, Option.bind_none, apply_ite (Option.map _), if_true, Function.comp_def, cvM]
  all_goals rfl
def G_M_next_166 (N : Nat)  (x5 : Int32) (s : mst) : Option (Int32 × mst) :=
    some (x5, s)
theorem sG_M_next_166 {h0 : Nat → pm_C} {B : Nat} {D : Nat → pd} {hi z N : Nat} (h : FX D hi)   {x5 : Int32} {s : mst} : F_M_next_166 N  x5 (mkM h0 B D hi z s) = (G_M_next_166 N  x5 s).map (cvM h0 B D hi z) := by
  simp only [F_M_next_166, G_M_next_166, aim_111 h, aim_87 h, rdm_85_37 h, rdm_85_52 h, rdm_85_6 h, sg_M_boxOf h, sg_M_isIn h, sg_M_isPlan h, sg_M_layFits h, sg_M_layParts h, sg_M_walkOf h, wrm_85_0 h, sG_M_next_34 h, Option.bind_some, Option.map_bind, Option.bind_map, Option.map_some, Option.map_none, Option.bind_none, apply_ite (Option.map _), if_true, Function.comp_def, cvM]
  all_goals rfl
def G_M_next_160 (N : Nat) (rec53 : Int32 → Int32 → Int32 → Int32 → mst → Option (Int32 × mst)) (x1 : Int32) (x2 : Int32) (x3 : Int32) (x4 : Int32) (x5 : Int32) (x6 : Int32) (x7 : Int32) (x8 : Int32) (s : mst) : Option (Int32 × mst) :=
    rec53 x5 x6 x7 (x8 + 1) s
theorem sG_M_next_160 {h0 : Nat → pm_C} {B : Nat} {D : Nat → pd} {hi z N : Nat} (h : FX D hi) {rec53 : Int32 → Int32 → Int32 → Int32 → pm_S → Option (Int32 × pm_S)} {grec53 : Int32 → Int32 → Int32 → Int32 → mst → Option (Int32 × mst)} (hrec53 : ∀ (y1 : Int32) (y2 : Int32) (y3 : Int32) (y4 : Int32) (s : mst), rec53 y1 y2 y3 y4 (mkM h0 B D hi z s) = (grec53 y1 y2 y3 y4 s).map (cvM h0 B D hi z)) {x1 : Int32} {x2 : Int32} {x3 : Int32} {x4 : Int32} {x5 : Int32} {x6 : Int32} {x7 : Int32} {x8 : Int32} {s : mst} : F_M_next_160 N rec53 (B + 85) x1 x2 x3 x4 x5 x6 x7 x8 (mkM h0 B D hi z s) = (G_M_next_160 N grec53 x1 x2 x3 x4 x5 x6 x7 x8 s).map (cvM h0 B D hi z) := by
  simp only [F_M_next_160, G_M_next_160, aim_111 h, aim_87 h, rdm_85_37 h, rdm_85_52 h, rdm_85_6 h, sg_M_boxOf h, sg_M_isIn h, sg_M_isPlan h, sg_M_layFits h, sg_M_layParts h, sg_M_walkOf h, wrm_85_0 h, sG_M_next_34 h, sG_M_next_166 h, hrec53, Option.bind_some, Option.map_bind, Option.bind_map, Option.map_some, Option.map_none, Option.bind_none, apply_ite (Option.map _), if_true, Function.comp_def, cvM]
  all_goals rfl
def G_M_next_110 (N : Nat)   (s : mst) : Option (Int32 × mst) :=
    some ((-1), s)
theorem sG_M_next_110 {h0 : Nat → pm_C} {B : Nat} {D : Nat → pd} {hi z N : Nat} (h : FX D hi)    {s : mst} : F_M_next_110 N   (mkM h0 B D hi z s) = (G_M_next_110 N   s).map (cvM h0 B D hi z) := by
  simp only [F_M_next_110, G_M_next_110, aim_111 h, aim_87 h, rdm_85_37 h, rdm_85_52 h, rdm_85_6 h, sg_M_boxOf h, sg_M_isIn h, sg_M_isPlan h, sg_M_layFits h, sg_M_layParts h, sg_M_walkOf h, wrm_85_0 h, sG_M_next_34 h, sG_M_next_166 h, Option.bind_some, Option.map_bind, Option.bind_map, Option.map_some, Option.map_none, Option.bind_none, apply_ite (Option.map _), if_true, Function.comp_def, cvM]
  all_goals rfl
def G_M_next_146 (N : Nat) (rec53 : Int32 → Int32 → Int32 → Int32 → mst → Option (Int32 × mst)) (x1 : Int32) (x2 : Int32) (x3 : Int32) (x4 : Int32) (x8 : Int32) (x9 : Int32) (s : mst) : Option (Int32 × mst) :=
    G_M_next_160 N rec53 x1 x2 x3 x4 x8 (s.1 85 52) x9 x8 s
theorem sG_M_next_146 {h0 : Nat → pm_C} {B : Nat} {D : Nat → pd} {hi z N : Nat} (h : FX D hi) {rec53 : Int32 → Int32 → Int32 → Int32 → pm_S → Option (Int32 × pm_S)} {grec53 : Int32 → Int32 → Int32 → Int32 → mst → Option (Int32 × mst)} (hrec53 : ∀ (y1 : Int32) (y2 : Int32) (y3 : Int32) (y4 : Int32) (s : mst), rec53 y1 y2 y3 y4 (mkM h0 B D hi z s) = (grec53 y1 y2 y3 y4 s).map (cvM h0 B D hi z)) {x1 : Int32} {x2 : Int32} {x3 : Int32} {x4 : Int32} {x8 : Int32} {x9 : Int32} {s : mst} : F_M_next_146 N rec53 (B + 85) x1 x2 x3 x4 x8 x9 (mkM h0 B D hi z s) = (G_M_next_146 N grec53 x1 x2 x3 x4 x8 x9 s).map (cvM h0 B D hi z) := by
  simp only [F_M_next_146, G_M_next_146, aim_111 h, aim_87 h, rdm_85_37 h, rdm_85_52 h, rdm_85_6 h, sg_M_boxOf h, sg_M_isIn h, sg_M_isPlan h, sg_M_layFits h, sg_M_layParts h, sg_M_walkOf h, wrm_85_0 h, sG_M_next_34 h, sG_M_next_166 h, sG_M_next_160 h hrec53, sG_M_next_110 h, hrec53, Option.bind_some, Option.map_bind, Option.bind_map, Option.map_some, Option.map_none, Option.bind_none, apply_ite (Option.map _), if_true, Function.comp_def, cvM]
  all_goals rfl
def GB_M_next_53 (N : Nat)  (rec53 : Int32 → Int32 → Int32 → Int32 → mst → Option (Int32 × mst)) (x1 : Int32) (x2 : Int32) (x3 : Int32) (x4 : Int32) (x5 : Int32) (x6 : Int32) (x7 : Int32) (x8 : Int32) (s : mst) : Option (Int32 × mst) :=
    (rdA s 111 7 x1).bind fun v7 =>
    if v7 ≤ x8 then
    G_M_next_166 N x5 s
    else
    ((G_M_boxOf N s x1 x8).bind fun r9 =>
    (G_M_walkOf N r9.2 x1 x3 r9.1).bind fun r11 =>
    if r11.1 = (-1) then
    G_M_next_160 N rec53 x1 x2 x3 x4 x5 x6 x7 x8 r11.2
    else
    (if r11.1 ≤ x4 then
    ((G_M_layParts N r11.2 x1 x8 x2).bind fun s12 =>
    if (s12.1 85 52) = 0 then
    G_M_next_110 N s12
    else
    (if x5 = (-1) then
    G_M_next_146 N rec53 x1 x2 x3 x4 x8 r11.1 s12
    else
    (if x6 < (s12.1 85 52) then
    G_M_next_160 N rec53 x1 x2 x3 x4 x5 x6 x7 x8 s12
    else
    (if (s12.1 85 52) = x6 then
    (if r11.1 < x7 then
    G_M_next_146 N rec53 x1 x2 x3 x4 x8 r11.1 s12
    else
    G_M_next_160 N rec53 x1 x2 x3 x4 x5 x6 x7 x8 s12)
    else
    G_M_next_146 N rec53 x1 x2 x3 x4 x8 r11.1 s12))))
    else
    G_M_next_160 N rec53 x1 x2 x3 x4 x5 x6 x7 x8 r11.2))
theorem sGB_M_next_53 {h0 : Nat → pm_C} {B : Nat} {D : Nat → pd} {hi z N : Nat} (h : FX D hi) {rec53 : Int32 → Int32 → Int32 → Int32 → pm_S → Option (Int32 × pm_S)} {grec53 : Int32 → Int32 → Int32 → Int32 → mst → Option (Int32 × mst)} (hrec53 : ∀ (y1 : Int32) (y2 : Int32) (y3 : Int32) (y4 : Int32) (s : mst), rec53 y1 y2 y3 y4 (mkM h0 B D hi z s) = (grec53 y1 y2 y3 y4 s).map (cvM h0 B D hi z)) {x1 : Int32} {x2 : Int32} {x3 : Int32} {x4 : Int32} {x5 : Int32} {x6 : Int32} {x7 : Int32} {x8 : Int32} {s : mst} : B_M_next_53 N rec53 (B + 85) x1 x2 x3 x4 x5 x6 x7 x8 (mkM h0 B D hi z s) = (GB_M_next_53 N grec53 x1 x2 x3 x4 x5 x6 x7 x8 s).map (cvM h0 B D hi z) := by
  simp only [B_M_next_53, GB_M_next_53, aim_111 h, aim_87 h, rdm_85_37 h, rdm_85_52 h, rdm_85_6 h, sg_M_boxOf h, sg_M_isIn h, sg_M_isPlan h, sg_M_layFits h, sg_M_layParts h, sg_M_walkOf h, wrm_85_0 h, sG_M_next_34 h, sG_M_next_166 h, sG_M_next_160 h hrec53, sG_M_next_110 h, sG_M_next_146 h hrec53, hrec53, Option.bind_some, Option.map_bind, Option.bind_map, Option.map_some, Option.map_none, Option.bind_none, apply_ite (Option.map _), if_true, Function.comp_def, cvM]
  all_goals rfl
def G_M_next_53 (N : Nat)  (x1 : Int32) (x2 : Int32) (x3 : Int32) (x4 : Int32) : Nat → Int32 → Int32 → Int32 → Int32 → mst → Option (Int32 × mst)
  | 0 => fun _ _ _ _ _ => none
  | n + 1 => fun x5 x6 x7 x8 s => GB_M_next_53 N  (G_M_next_53 N  x1 x2 x3 x4 n) x1 x2 x3 x4 x5 x6 x7 x8 s
theorem sG_M_next_53 {h0 : Nat → pm_C} {B : Nat} {D : Nat → pd} {hi z N : Nat} (h : FX D hi)   {x1 : Int32} {x2 : Int32} {x3 : Int32} {x4 : Int32} : ∀ (n : Nat) (x5 : Int32) (x6 : Int32) (x7 : Int32) (x8 : Int32) (s : mst), F_M_next_53 N  (B + 85) x1 x2 x3 x4 n x5 x6 x7 x8 (mkM h0 B D hi z s) = (G_M_next_53 N  x1 x2 x3 x4 n x5 x6 x7 x8 s).map (cvM h0 B D hi z) := by
  intro n
  induction n with
  | zero => intro x5 x6 x7 x8 s; rfl
  | succ n ih => intro x5 x6 x7 x8 s; exact sGB_M_next_53 h  ih
def G_M_next (N : Nat) (s : mst) (p0 : Int32) (p1 : Int32) (p2 : Int32) (p3 : Int32) : Option (Int32 × mst) :=
    (G_M_isPlan N (wrI s 85 0 0) p0).bind fun r2 =>
    if r2.1 = 0 then
    G_M_next_34 N r2.2
    else
    ((rdA r2.2 87 7 p0).bind fun v3 =>
    (G_M_isIn N r2.2 p2 0 (v3 - 1)).bind fun r5 =>
    if r5.1 = 0 then
    G_M_next_34 N r5.2
    else
    (if 0 ≤ p3 then
    ((G_M_layFits N r5.2 p0).bind fun s6 =>
    G_M_next_53 N p0 p1 p2 p3 N (-1) 0 0 0 s6)
    else
    G_M_next_34 N r5.2))
theorem sg_M_next {h0 : Nat → pm_C} {B : Nat} {D : Nat → pd} {hi z N : Nat} (h : FX D hi) {p0 : Int32} {p1 : Int32} {p2 : Int32} {p3 : Int32} {s : mst} : F_M_next N (mkM h0 B D hi z s) (B + 85) p0 p1 p2 p3 = (G_M_next N s p0 p1 p2 p3).map (cvM h0 B D hi z) := by
  simp only [F_M_next, G_M_next, aim_111 h, aim_87 h, rdm_85_37 h, rdm_85_52 h, rdm_85_6 h, sg_M_boxOf h, sg_M_isIn h, sg_M_isPlan h, sg_M_layFits h, sg_M_layParts h, sg_M_walkOf h, wrm_85_0 h, sG_M_next_34 h, sG_M_next_166 h, sG_M_next_110 h, sG_M_next_53 h, rcm_85 h, Option.bind_some, Option.map_bind, Option.bind_map, Option.map_some, Option.map_none, Option.bind_none, apply_ite (Option.map _), if_true, Function.comp_def, cvM]
  all_goals rfl
def G_M_distance_30 (N : Nat)   (s : mst) : Option (Int32 × mst) :=
    some ((-1), s)
theorem sG_M_distance_30 {h0 : Nat → pm_C} {B : Nat} {D : Nat → pd} {hi z N : Nat} (h : FX D hi)    {s : mst} : F_M_distance_30 N   (mkM h0 B D hi z s) = (G_M_distance_30 N   s).map (cvM h0 B D hi z) := by
  simp only [F_M_distance_30, G_M_distance_30, aim_112 h, aim_118 h, aim_119 h, aim_120 h, aim_121 h, aim_92 h, rdm_85_11 h, rdm_85_38 h, rdm_85_44 h, rdm_85_45 h, rdm_85_46 h, rdm_85_47 h, sg_M_isIn h, sg_M_isPair h, sg_M_lay h, sg_M_would h, wrm_85_0 h, wrm_85_31 h, wrm_85_32 h, wrm_85_33 h, Option.bind_some, Option.map_bind, Option.bind_map, Option.map_some, Option.map_none, Option.bind_none, apply_ite (Option.map _), if_true, Function.comp_def, cvM]
  all_goals rfl
def G_M_distance_234 (N : Nat)  (t0 : Int32) (s : mst) : Option (Int32 × mst) :=
    some (t0, s)
theorem sG_M_distance_234 {h0 : Nat → pm_C} {B : Nat} {D : Nat → pd} {hi z N : Nat} (h : FX D hi)   {t0 : Int32} {s : mst} : F_M_distance_234 N  t0 (mkM h0 B D hi z s) = (G_M_distance_234 N  t0 s).map (cvM h0 B D hi z) := by
  simp only [F_M_distance_234, G_M_distance_234, aim_112 h, aim_118 h, aim_119 h, aim_120 h, aim_121 h, aim_92 h, rdm_85_11 h, rdm_85_38 h, rdm_85_44 h, rdm_85_45 h, rdm_85_46 h, rdm_85_47 h, sg_M_isIn h, sg_M_isPair h, sg_M_lay h, sg_M_would h, wrm_85_0 h, wrm_85_31 h, wrm_85_32 h, wrm_85_33 h, sG_M_distance_30 h, Option.bind_some, Option.map_bind, Option.bind_map, Option.map_some, Option.map_none, Option.bind_none, apply_ite (Option.map _), if_true, Function.comp_def, cvM]
  all_goals rfl
def G_M_distance_222 (N : Nat)  (x5 : Int32) (x6 : Int32) (x7 : Int32) (s : mst) : Option (Int32 × mst) :=
    if x5 = 0 then
    G_M_distance_234 N x6 s
    else
    G_M_distance_234 N x7 s
theorem sG_M_distance_222 {h0 : Nat → pm_C} {B : Nat} {D : Nat → pd} {hi z N : Nat} (h : FX D hi)   {x5 : Int32} {x6 : Int32} {x7 : Int32} {s : mst} : F_M_distance_222 N  x5 x6 x7 (mkM h0 B D hi z s) = (G_M_distance_222 N  x5 x6 x7 s).map (cvM h0 B D hi z) := by
  simp only [F_M_distance_222, G_M_distance_222, aim_112 h, aim_118 h, aim_119 h, aim_120 h, aim_121 h, aim_92 h, rdm_85_11 h, rdm_85_38 h, rdm_85_44 h, rdm_85_45 h, rdm_85_46 h, rdm_85_47 h, sg_M_isIn h, sg_M_isPair h, sg_M_lay h, sg_M_would h, wrm_85_0 h, wrm_85_31 h, wrm_85_32 h, wrm_85_33 h, sG_M_distance_30 h, sG_M_distance_234 h, Option.bind_some, Option.map_bind, Option.bind_map, Option.map_some, Option.map_none, Option.bind_none, apply_ite (Option.map _), if_true, Function.comp_def, cvM]
  all_goals rfl
def G_M_distance_216 (N : Nat) (rec41 : Int32 → Int32 → Int32 → mst → Option (Int32 × mst)) (x1 : Int32) (x2 : Int32) (x3 : Int32) (x4 : Int32) (x5 : Int32) (x6 : Int32) (x7 : Int32) (x8 : Int32) (s : mst) : Option (Int32 × mst) :=
    rec41 x6 x7 (x8 + 1) s
theorem sG_M_distance_216 {h0 : Nat → pm_C} {B : Nat} {D : Nat → pd} {hi z N : Nat} (h : FX D hi) {rec41 : Int32 → Int32 → Int32 → pm_S → Option (Int32 × pm_S)} {grec41 : Int32 → Int32 → Int32 → mst → Option (Int32 × mst)} (hrec41 : ∀ (y1 : Int32) (y2 : Int32) (y3 : Int32) (s : mst), rec41 y1 y2 y3 (mkM h0 B D hi z s) = (grec41 y1 y2 y3 s).map (cvM h0 B D hi z)) {x1 : Int32} {x2 : Int32} {x3 : Int32} {x4 : Int32} {x5 : Int32} {x6 : Int32} {x7 : Int32} {x8 : Int32} {s : mst} : F_M_distance_216 N rec41 (B + 85) x1 x2 x3 x4 x5 x6 x7 x8 (mkM h0 B D hi z s) = (G_M_distance_216 N grec41 x1 x2 x3 x4 x5 x6 x7 x8 s).map (cvM h0 B D hi z) := by
  simp only [F_M_distance_216, G_M_distance_216, aim_112 h, aim_118 h, aim_119 h, aim_120 h, aim_121 h, aim_92 h, rdm_85_11 h, rdm_85_38 h, rdm_85_44 h, rdm_85_45 h, rdm_85_46 h, rdm_85_47 h, sg_M_isIn h, sg_M_isPair h, sg_M_lay h, sg_M_would h, wrm_85_0 h, wrm_85_31 h, wrm_85_32 h, wrm_85_33 h, sG_M_distance_30 h, sG_M_distance_234 h, sG_M_distance_222 h, hrec41, Option.bind_some, Option.map_bind, Option.bind_map, Option.map_some, Option.map_none, Option.bind_none, apply_ite (Option.map _), if_true, Function.comp_def, cvM]
  all_goals rfl
def G_M_distance_210 (N : Nat) (rec41 : Int32 → Int32 → Int32 → mst → Option (Int32 × mst)) (x1 : Int32) (x2 : Int32) (x3 : Int32) (x4 : Int32) (x5 : Int32) (x8 : Int32) (t0 : Int32) (s : mst) : Option (Int32 × mst) :=
    G_M_distance_216 N rec41 x1 x2 x3 x4 x5 t0 x8 x8 s
theorem sG_M_distance_210 {h0 : Nat → pm_C} {B : Nat} {D : Nat → pd} {hi z N : Nat} (h : FX D hi) {rec41 : Int32 → Int32 → Int32 → pm_S → Option (Int32 × pm_S)} {grec41 : Int32 → Int32 → Int32 → mst → Option (Int32 × mst)} (hrec41 : ∀ (y1 : Int32) (y2 : Int32) (y3 : Int32) (s : mst), rec41 y1 y2 y3 (mkM h0 B D hi z s) = (grec41 y1 y2 y3 s).map (cvM h0 B D hi z)) {x1 : Int32} {x2 : Int32} {x3 : Int32} {x4 : Int32} {x5 : Int32} {x8 : Int32} {t0 : Int32} {s : mst} : F_M_distance_210 N rec41 (B + 85) x1 x2 x3 x4 x5 x8 t0 (mkM h0 B D hi z s) = (G_M_distance_210 N grec41 x1 x2 x3 x4 x5 x8 t0 s).map (cvM h0 B D hi z) := by
  simp only [F_M_distance_210, G_M_distance_210, aim_112 h, aim_118 h, aim_119 h, aim_120 h, aim_121 h, aim_92 h, rdm_85_11 h, rdm_85_38 h, rdm_85_44 h, rdm_85_45 h, rdm_85_46 h, rdm_85_47 h, sg_M_isIn h, sg_M_isPair h, sg_M_lay h, sg_M_would h, wrm_85_0 h, wrm_85_31 h, wrm_85_32 h, wrm_85_33 h, sG_M_distance_30 h, sG_M_distance_234 h, sG_M_distance_222 h, sG_M_distance_216 h hrec41, hrec41, Option.bind_some, Option.map_bind, Option.bind_map, Option.map_some, Option.map_none, Option.bind_none, apply_ite (Option.map _), if_true, Function.comp_def, cvM]
  all_goals rfl
def G_M_distance_189 (N : Nat) (rec41 : Int32 → Int32 → Int32 → mst → Option (Int32 × mst)) (x1 : Int32) (x2 : Int32) (x3 : Int32) (x4 : Int32) (x5 : Int32) (x6 : Int32) (x7 : Int32) (x8 : Int32) (x9 : Int32) (s : mst) : Option (Int32 × mst) :=
    if x9 = 0 then
    G_M_distance_216 N rec41 x1 x2 x3 x4 x5 x6 x7 x8 s
    else
    (if x6 = (-1) then
    G_M_distance_210 N rec41 x1 x2 x3 x4 x5 x8 x8 s
    else
    G_M_distance_210 N rec41 x1 x2 x3 x4 x5 x8 x6 s)
theorem sG_M_distance_189 {h0 : Nat → pm_C} {B : Nat} {D : Nat → pd} {hi z N : Nat} (h : FX D hi) {rec41 : Int32 → Int32 → Int32 → pm_S → Option (Int32 × pm_S)} {grec41 : Int32 → Int32 → Int32 → mst → Option (Int32 × mst)} (hrec41 : ∀ (y1 : Int32) (y2 : Int32) (y3 : Int32) (s : mst), rec41 y1 y2 y3 (mkM h0 B D hi z s) = (grec41 y1 y2 y3 s).map (cvM h0 B D hi z)) {x1 : Int32} {x2 : Int32} {x3 : Int32} {x4 : Int32} {x5 : Int32} {x6 : Int32} {x7 : Int32} {x8 : Int32} {x9 : Int32} {s : mst} : F_M_distance_189 N rec41 (B + 85) x1 x2 x3 x4 x5 x6 x7 x8 x9 (mkM h0 B D hi z s) = (G_M_distance_189 N grec41 x1 x2 x3 x4 x5 x6 x7 x8 x9 s).map (cvM h0 B D hi z) := by
  simp only [F_M_distance_189, G_M_distance_189, aim_112 h, aim_118 h, aim_119 h, aim_120 h, aim_121 h, aim_92 h, rdm_85_11 h, rdm_85_38 h, rdm_85_44 h, rdm_85_45 h, rdm_85_46 h, rdm_85_47 h, sg_M_isIn h, sg_M_isPair h, sg_M_lay h, sg_M_would h, wrm_85_0 h, wrm_85_31 h, wrm_85_32 h, wrm_85_33 h, sG_M_distance_30 h, sG_M_distance_234 h, sG_M_distance_222 h, sG_M_distance_216 h hrec41, sG_M_distance_210 h hrec41, hrec41, Option.bind_some, Option.map_bind, Option.bind_map, Option.map_some, Option.map_none, Option.bind_none, apply_ite (Option.map _), if_true, Function.comp_def, cvM]
  all_goals rfl
def G_M_distance_183 (N : Nat) (rec41 : Int32 → Int32 → Int32 → mst → Option (Int32 × mst)) (rec86 : Int32 → Int32 → mst → Option (Int32 × mst)) (x1 : Int32) (x2 : Int32) (x3 : Int32) (x4 : Int32) (x5 : Int32) (x6 : Int32) (x7 : Int32) (x8 : Int32) (x9 : Int32) (x10 : Int32) (s : mst) : Option (Int32 × mst) :=
    rec86 x9 (x10 + 1) s
theorem sG_M_distance_183 {h0 : Nat → pm_C} {B : Nat} {D : Nat → pd} {hi z N : Nat} (h : FX D hi) {rec41 : Int32 → Int32 → Int32 → pm_S → Option (Int32 × pm_S)} {grec41 : Int32 → Int32 → Int32 → mst → Option (Int32 × mst)} {rec86 : Int32 → Int32 → pm_S → Option (Int32 × pm_S)} {grec86 : Int32 → Int32 → mst → Option (Int32 × mst)} (hrec41 : ∀ (y1 : Int32) (y2 : Int32) (y3 : Int32) (s : mst), rec41 y1 y2 y3 (mkM h0 B D hi z s) = (grec41 y1 y2 y3 s).map (cvM h0 B D hi z)) (hrec86 : ∀ (y1 : Int32) (y2 : Int32) (s : mst), rec86 y1 y2 (mkM h0 B D hi z s) = (grec86 y1 y2 s).map (cvM h0 B D hi z)) {x1 : Int32} {x2 : Int32} {x3 : Int32} {x4 : Int32} {x5 : Int32} {x6 : Int32} {x7 : Int32} {x8 : Int32} {x9 : Int32} {x10 : Int32} {s : mst} : F_M_distance_183 N rec41 rec86 (B + 85) x1 x2 x3 x4 x5 x6 x7 x8 x9 x10 (mkM h0 B D hi z s) = (G_M_distance_183 N grec41 grec86 x1 x2 x3 x4 x5 x6 x7 x8 x9 x10 s).map (cvM h0 B D hi z) := by
  simp only [F_M_distance_183, G_M_distance_183, aim_112 h, aim_118 h, aim_119 h, aim_120 h, aim_121 h, aim_92 h, rdm_85_11 h, rdm_85_38 h, rdm_85_44 h, rdm_85_45 h, rdm_85_46 h, rdm_85_47 h, sg_M_isIn h, sg_M_isPair h, sg_M_lay h, sg_M_would h, wrm_85_0 h, wrm_85_31 h, wrm_85_32 h, wrm_85_33 h, sG_M_distance_30 h, sG_M_distance_234 h, sG_M_distance_222 h, sG_M_distance_216 h hrec41, sG_M_distance_210 h hrec41, sG_M_distance_189 h hrec41, hrec41, hrec86, Option.bind_some, Option.map_bind, Option.bind_map, Option.map_some, Option.map_none, Option.bind_none, apply_ite (Option.map _), if_true, Function.comp_def, cvM]
  all_goals rfl
def G_M_distance_181 (N : Nat) (rec41 : Int32 → Int32 → Int32 → mst → Option (Int32 × mst)) (rec86 : Int32 → Int32 → mst → Option (Int32 × mst)) (x1 : Int32) (x2 : Int32) (x3 : Int32) (x4 : Int32) (x5 : Int32) (x6 : Int32) (x7 : Int32) (x8 : Int32) (x10 : Int32) (t0 : Int32) (s : mst) : Option (Int32 × mst) :=
    G_M_distance_183 N rec41 rec86 x1 x2 x3 x4 x5 x6 x7 x8 t0 x10 s
theorem sG_M_distance_181 {h0 : Nat → pm_C} {B : Nat} {D : Nat → pd} {hi z N : Nat} (h : FX D hi) {rec41 : Int32 → Int32 → Int32 → pm_S → Option (Int32 × pm_S)} {grec41 : Int32 → Int32 → Int32 → mst → Option (Int32 × mst)} {rec86 : Int32 → Int32 → pm_S → Option (Int32 × pm_S)} {grec86 : Int32 → Int32 → mst → Option (Int32 × mst)} (hrec41 : ∀ (y1 : Int32) (y2 : Int32) (y3 : Int32) (s : mst), rec41 y1 y2 y3 (mkM h0 B D hi z s) = (grec41 y1 y2 y3 s).map (cvM h0 B D hi z)) (hrec86 : ∀ (y1 : Int32) (y2 : Int32) (s : mst), rec86 y1 y2 (mkM h0 B D hi z s) = (grec86 y1 y2 s).map (cvM h0 B D hi z)) {x1 : Int32} {x2 : Int32} {x3 : Int32} {x4 : Int32} {x5 : Int32} {x6 : Int32} {x7 : Int32} {x8 : Int32} {x10 : Int32} {t0 : Int32} {s : mst} : F_M_distance_181 N rec41 rec86 (B + 85) x1 x2 x3 x4 x5 x6 x7 x8 x10 t0 (mkM h0 B D hi z s) = (G_M_distance_181 N grec41 grec86 x1 x2 x3 x4 x5 x6 x7 x8 x10 t0 s).map (cvM h0 B D hi z) := by
  simp only [F_M_distance_181, G_M_distance_181, aim_112 h, aim_118 h, aim_119 h, aim_120 h, aim_121 h, aim_92 h, rdm_85_11 h, rdm_85_38 h, rdm_85_44 h, rdm_85_45 h, rdm_85_46 h, rdm_85_47 h, sg_M_isIn h, sg_M_isPair h, sg_M_lay h, sg_M_would h, wrm_85_0 h, wrm_85_31 h, wrm_85_32 h, wrm_85_33 h, sG_M_distance_30 h, sG_M_distance_234 h, sG_M_distance_222 h, sG_M_distance_216 h hrec41, sG_M_distance_210 h hrec41, sG_M_distance_189 h hrec41, sG_M_distance_183 h hrec41 hrec86, hrec41, hrec86, Option.bind_some, Option.map_bind, Option.bind_map, Option.map_some, Option.map_none, Option.bind_none, apply_ite (Option.map _), if_true, Function.comp_def, cvM]
  all_goals rfl
def G_M_distance_180 (N : Nat) (rec41 : Int32 → Int32 → Int32 → mst → Option (Int32 × mst)) (rec86 : Int32 → Int32 → mst → Option (Int32 × mst)) (x1 : Int32) (x2 : Int32) (x3 : Int32) (x4 : Int32) (x5 : Int32) (x6 : Int32) (x7 : Int32) (x8 : Int32) (x10 : Int32) (s : mst) : Option (Int32 × mst) :=
    G_M_distance_181 N rec41 rec86 x1 x2 x3 x4 x5 x6 x7 x8 x10 0 s
theorem sG_M_distance_180 {h0 : Nat → pm_C} {B : Nat} {D : Nat → pd} {hi z N : Nat} (h : FX D hi) {rec41 : Int32 → Int32 → Int32 → pm_S → Option (Int32 × pm_S)} {grec41 : Int32 → Int32 → Int32 → mst → Option (Int32 × mst)} {rec86 : Int32 → Int32 → pm_S → Option (Int32 × pm_S)} {grec86 : Int32 → Int32 → mst → Option (Int32 × mst)} (hrec41 : ∀ (y1 : Int32) (y2 : Int32) (y3 : Int32) (s : mst), rec41 y1 y2 y3 (mkM h0 B D hi z s) = (grec41 y1 y2 y3 s).map (cvM h0 B D hi z)) (hrec86 : ∀ (y1 : Int32) (y2 : Int32) (s : mst), rec86 y1 y2 (mkM h0 B D hi z s) = (grec86 y1 y2 s).map (cvM h0 B D hi z)) {x1 : Int32} {x2 : Int32} {x3 : Int32} {x4 : Int32} {x5 : Int32} {x6 : Int32} {x7 : Int32} {x8 : Int32} {x10 : Int32} {s : mst} : F_M_distance_180 N rec41 rec86 (B + 85) x1 x2 x3 x4 x5 x6 x7 x8 x10 (mkM h0 B D hi z s) = (G_M_distance_180 N grec41 grec86 x1 x2 x3 x4 x5 x6 x7 x8 x10 s).map (cvM h0 B D hi z) := by
  simp only [F_M_distance_180, G_M_distance_180, aim_112 h, aim_118 h, aim_119 h, aim_120 h, aim_121 h, aim_92 h, rdm_85_11 h, rdm_85_38 h, rdm_85_44 h, rdm_85_45 h, rdm_85_46 h, rdm_85_47 h, sg_M_isIn h, sg_M_isPair h, sg_M_lay h, sg_M_would h, wrm_85_0 h, wrm_85_31 h, wrm_85_32 h, wrm_85_33 h, sG_M_distance_30 h, sG_M_distance_234 h, sG_M_distance_222 h, sG_M_distance_216 h hrec41, sG_M_distance_210 h hrec41, sG_M_distance_189 h hrec41, sG_M_distance_183 h hrec41 hrec86, sG_M_distance_181 h hrec41 hrec86, hrec41, hrec86, Option.bind_some, Option.map_bind, Option.bind_map, Option.map_some, Option.map_none, Option.bind_none, apply_ite (Option.map _), if_true, Function.comp_def, cvM]
  all_goals rfl
def GB_M_distance_86 (N : Nat) (rec41 : Int32 → Int32 → Int32 → mst → Option (Int32 × mst)) (rec86 : Int32 → Int32 → mst → Option (Int32 × mst)) (x1 : Int32) (x2 : Int32) (x3 : Int32) (x4 : Int32) (x5 : Int32) (x6 : Int32) (x7 : Int32) (x8 : Int32) (x9 : Int32) (x10 : Int32) (s : mst) : Option (Int32 × mst) :=
    (rdA s 118 7 x1).bind fun v7 =>
    if v7 ≤ x10 then
    G_M_distance_189 N rec41 x1 x2 x3 x4 x5 x6 x7 x8 x9 s
    else
    ((rdA s 121 144 ((24 * x1) + x10)).bind fun v8 =>
    if v8 = 0 then
    ((rdA s 119 144 ((24 * x1) + x10)).bind fun v9 =>
    (rdA s 112 72 ((12 * x1) + v9)).bind fun v10 =>
    if v10 = 1 then
    (if x9 = 0 then
    G_M_distance_180 N rec41 rec86 x1 x2 x3 x4 x5 x6 x7 x8 x10 s
    else
    ((rdA s 120 144 ((24 * x1) + x10)).bind fun v11 =>
    (rdA s 119 144 ((24 * x1) + x10)).bind fun v12 =>
    (G_M_would N s v12).bind fun r14 =>
    if x4 < (if 0 ≤ ((v11 / 4) - (r14.1 / 4)) then ((v11 / 4) - (r14.1 / 4)) else 0 - ((v11 / 4) - (r14.1 / 4))) then
    G_M_distance_180 N rec41 rec86 x1 x2 x3 x4 x5 x6 x7 x8 x10 r14.2
    else
    G_M_distance_181 N rec41 rec86 x1 x2 x3 x4 x5 x6 x7 x8 x10 1 r14.2))
    else
    G_M_distance_183 N rec41 rec86 x1 x2 x3 x4 x5 x6 x7 x8 x9 x10 s)
    else
    G_M_distance_183 N rec41 rec86 x1 x2 x3 x4 x5 x6 x7 x8 x9 x10 s)
theorem sGB_M_distance_86 {h0 : Nat → pm_C} {B : Nat} {D : Nat → pd} {hi z N : Nat} (h : FX D hi) {rec41 : Int32 → Int32 → Int32 → pm_S → Option (Int32 × pm_S)} {grec41 : Int32 → Int32 → Int32 → mst → Option (Int32 × mst)} {rec86 : Int32 → Int32 → pm_S → Option (Int32 × pm_S)} {grec86 : Int32 → Int32 → mst → Option (Int32 × mst)} (hrec41 : ∀ (y1 : Int32) (y2 : Int32) (y3 : Int32) (s : mst), rec41 y1 y2 y3 (mkM h0 B D hi z s) = (grec41 y1 y2 y3 s).map (cvM h0 B D hi z)) (hrec86 : ∀ (y1 : Int32) (y2 : Int32) (s : mst), rec86 y1 y2 (mkM h0 B D hi z s) = (grec86 y1 y2 s).map (cvM h0 B D hi z)) {x1 : Int32} {x2 : Int32} {x3 : Int32} {x4 : Int32} {x5 : Int32} {x6 : Int32} {x7 : Int32} {x8 : Int32} {x9 : Int32} {x10 : Int32} {s : mst} : B_M_distance_86 N rec41 rec86 (B + 85) x1 x2 x3 x4 x5 x6 x7 x8 x9 x10 (mkM h0 B D hi z s) = (GB_M_distance_86 N grec41 grec86 x1 x2 x3 x4 x5 x6 x7 x8 x9 x10 s).map (cvM h0 B D hi z) := by
  simp only [B_M_distance_86, GB_M_distance_86, aim_112 h, aim_118 h, aim_119 h, aim_120 h, aim_121 h, aim_92 h, rdm_85_11 h, rdm_85_38 h, rdm_85_44 h, rdm_85_45 h, rdm_85_46 h, rdm_85_47 h, sg_M_isIn h, sg_M_isPair h, sg_M_lay h, sg_M_would h, wrm_85_0 h, wrm_85_31 h, wrm_85_32 h, wrm_85_33 h, sG_M_distance_30 h, sG_M_distance_234 h, sG_M_distance_222 h, sG_M_distance_216 h hrec41, sG_M_distance_210 h hrec41, sG_M_distance_189 h hrec41, sG_M_distance_183 h hrec41 hrec86, sG_M_distance_181 h hrec41 hrec86, sG_M_distance_180 h hrec41 hrec86, hrec41, hrec86, Option.bind_some, Option.map_bind, Option.bind_map, Option.map_some, Option.map_none, Option.bind_none, apply_ite (Option.map _), if_true, Function.comp_def, cvM]
  all_goals rfl
def G_M_distance_86 (N : Nat) (rec41 : Int32 → Int32 → Int32 → mst → Option (Int32 × mst)) (x1 : Int32) (x2 : Int32) (x3 : Int32) (x4 : Int32) (x5 : Int32) (x6 : Int32) (x7 : Int32) (x8 : Int32) : Nat → Int32 → Int32 → mst → Option (Int32 × mst)
  | 0 => fun _ _ _ => none
  | n + 1 => fun x9 x10 s => GB_M_distance_86 N rec41 (G_M_distance_86 N rec41 x1 x2 x3 x4 x5 x6 x7 x8 n) x1 x2 x3 x4 x5 x6 x7 x8 x9 x10 s
theorem sG_M_distance_86 {h0 : Nat → pm_C} {B : Nat} {D : Nat → pd} {hi z N : Nat} (h : FX D hi) {rec41 : Int32 → Int32 → Int32 → pm_S → Option (Int32 × pm_S)} {grec41 : Int32 → Int32 → Int32 → mst → Option (Int32 × mst)} (hrec41 : ∀ (y1 : Int32) (y2 : Int32) (y3 : Int32) (s : mst), rec41 y1 y2 y3 (mkM h0 B D hi z s) = (grec41 y1 y2 y3 s).map (cvM h0 B D hi z)) {x1 : Int32} {x2 : Int32} {x3 : Int32} {x4 : Int32} {x5 : Int32} {x6 : Int32} {x7 : Int32} {x8 : Int32} : ∀ (n : Nat) (x9 : Int32) (x10 : Int32) (s : mst), F_M_distance_86 N rec41 (B + 85) x1 x2 x3 x4 x5 x6 x7 x8 n x9 x10 (mkM h0 B D hi z s) = (G_M_distance_86 N grec41 x1 x2 x3 x4 x5 x6 x7 x8 n x9 x10 s).map (cvM h0 B D hi z) := by
  intro n
  induction n with
  | zero => intro x9 x10 s; rfl
  | succ n ih => intro x9 x10 s; exact sGB_M_distance_86 h hrec41 ih
def GB_M_distance_41 (N : Nat)  (rec41 : Int32 → Int32 → Int32 → mst → Option (Int32 × mst)) (x1 : Int32) (x2 : Int32) (x3 : Int32) (x4 : Int32) (x5 : Int32) (x6 : Int32) (x7 : Int32) (x8 : Int32) (s : mst) : Option (Int32 × mst) :=
    (rdA s 92 49 ((7 * x1) + x2)).bind fun v5 =>
    if v5 < x8 then
    G_M_distance_222 N x5 x6 x7 s
    else
    ((G_M_lay N s x1 0 0).bind fun s6 =>
    G_M_distance_86 N rec41 x1 x2 x3 x4 x5 x6 x7 x8 N 1 0 (wrI (wrI (wrI s6 85 31 x2) 85 32 x3) 85 33 x8))
theorem sGB_M_distance_41 {h0 : Nat → pm_C} {B : Nat} {D : Nat → pd} {hi z N : Nat} (h : FX D hi) {rec41 : Int32 → Int32 → Int32 → pm_S → Option (Int32 × pm_S)} {grec41 : Int32 → Int32 → Int32 → mst → Option (Int32 × mst)} (hrec41 : ∀ (y1 : Int32) (y2 : Int32) (y3 : Int32) (s : mst), rec41 y1 y2 y3 (mkM h0 B D hi z s) = (grec41 y1 y2 y3 s).map (cvM h0 B D hi z)) {x1 : Int32} {x2 : Int32} {x3 : Int32} {x4 : Int32} {x5 : Int32} {x6 : Int32} {x7 : Int32} {x8 : Int32} {s : mst} : B_M_distance_41 N rec41 (B + 85) x1 x2 x3 x4 x5 x6 x7 x8 (mkM h0 B D hi z s) = (GB_M_distance_41 N grec41 x1 x2 x3 x4 x5 x6 x7 x8 s).map (cvM h0 B D hi z) := by
  simp only [B_M_distance_41, GB_M_distance_41, aim_112 h, aim_118 h, aim_119 h, aim_120 h, aim_121 h, aim_92 h, rdm_85_11 h, rdm_85_38 h, rdm_85_44 h, rdm_85_45 h, rdm_85_46 h, rdm_85_47 h, sg_M_isIn h, sg_M_isPair h, sg_M_lay h, sg_M_would h, wrm_85_0 h, wrm_85_31 h, wrm_85_32 h, wrm_85_33 h, sG_M_distance_30 h, sG_M_distance_234 h, sG_M_distance_222 h, sG_M_distance_216 h hrec41, sG_M_distance_210 h hrec41, sG_M_distance_189 h hrec41, sG_M_distance_86 h hrec41, hrec41, Option.bind_some, Option.map_bind, Option.bind_map, Option.map_some, Option.map_none, Option.bind_none, apply_ite (Option.map _), if_true, Function.comp_def, cvM]
  all_goals rfl
def G_M_distance_41 (N : Nat)  (x1 : Int32) (x2 : Int32) (x3 : Int32) (x4 : Int32) (x5 : Int32) : Nat → Int32 → Int32 → Int32 → mst → Option (Int32 × mst)
  | 0 => fun _ _ _ _ => none
  | n + 1 => fun x6 x7 x8 s => GB_M_distance_41 N  (G_M_distance_41 N  x1 x2 x3 x4 x5 n) x1 x2 x3 x4 x5 x6 x7 x8 s
theorem sG_M_distance_41 {h0 : Nat → pm_C} {B : Nat} {D : Nat → pd} {hi z N : Nat} (h : FX D hi)   {x1 : Int32} {x2 : Int32} {x3 : Int32} {x4 : Int32} {x5 : Int32} : ∀ (n : Nat) (x6 : Int32) (x7 : Int32) (x8 : Int32) (s : mst), F_M_distance_41 N  (B + 85) x1 x2 x3 x4 x5 n x6 x7 x8 (mkM h0 B D hi z s) = (G_M_distance_41 N  x1 x2 x3 x4 x5 n x6 x7 x8 s).map (cvM h0 B D hi z) := by
  intro n
  induction n with
  | zero => intro x6 x7 x8 s; rfl
  | succ n ih => intro x6 x7 x8 s; exact sGB_M_distance_41 h  ih
def G_M_distance (N : Nat) (s : mst) (p0 : Int32) (p1 : Int32) (p2 : Int32) (p3 : Int32) (p4 : Int32) : Option (Int32 × mst) :=
    (G_M_isPair N (wrI s 85 0 0) p0 p1 p2).bind fun r2 =>
    if r2.1 = 0 then
    G_M_distance_30 N r2.2
    else
    (if p3 < 0 then
    G_M_distance_30 N r2.2
    else
    ((G_M_isIn N r2.2 p4 0 1).bind fun r4 =>
    if r4.1 = 0 then
    G_M_distance_30 N r4.2
    else
    G_M_distance_41 N p0 p1 p2 p3 p4 N (-1) (-1) 0 r4.2))
theorem sg_M_distance {h0 : Nat → pm_C} {B : Nat} {D : Nat → pd} {hi z N : Nat} (h : FX D hi) {p0 : Int32} {p1 : Int32} {p2 : Int32} {p3 : Int32} {p4 : Int32} {s : mst} : F_M_distance N (mkM h0 B D hi z s) (B + 85) p0 p1 p2 p3 p4 = (G_M_distance N s p0 p1 p2 p3 p4).map (cvM h0 B D hi z) := by
  simp only [F_M_distance, G_M_distance, aim_112 h, aim_118 h, aim_119 h, aim_120 h, aim_121 h, aim_92 h, rdm_85_11 h, rdm_85_38 h, rdm_85_44 h, rdm_85_45 h, rdm_85_46 h, rdm_85_47 h, sg_M_isIn h, sg_M_isPair h, sg_M_lay h, sg_M_would h, wrm_85_0 h, wrm_85_31 h, wrm_85_32 h, wrm_85_33 h, sG_M_distance_30 h, sG_M_distance_234 h, sG_M_distance_222 h, sG_M_distance_41 h, rcm_85 h, Option.bind_some, Option.map_bind, Option.bind_map, Option.map_some, Option.map_none, Option.bind_none, apply_ite (Option.map _), if_true, Function.comp_def, cvM]
  all_goals rfl
