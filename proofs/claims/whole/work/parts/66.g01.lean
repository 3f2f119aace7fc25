def G_M_isPair_35 (N : Nat)  (t0 : Int32) (s : mst) : Option (Int32 × mst) :=
    if t0 = 0 ∨ t0 = 1 then some (t0, s) else none
theorem sG_M_isPair_35 {h0 : Nat → pm_C} {B : Nat} {D : Nat → pd} {hi z N : Nat} (h : FX D hi)   {t0 : Int32} {s : mst} : F_M_isPair_35 N  t0 (mkM h0 B D hi z s) = (G_M_isPair_35 N  t0 s).map (cvM h0 B D hi z) := by
  simp only [F_M_isPair_35, G_M_isPair_35, aim_91 h, rdm_85_10 h, sg_M_isCable h, sg_M_isIn h, Option.bind_some, Option.map_bind, Option.bind_map, Option.map_some, Option.map_none, Option.bind_none, apply_ite (Option.map _), if_true, Function.comp_def, cvM]
  all_goals rfl
def G_M_isPair_34 (N : Nat)   (s : mst) : Option (Int32 × mst) :=
    G_M_isPair_35 N 0 s
theorem sG_M_isPair_34 {h0 : Nat → pm_C} {B : Nat} {D : Nat → pd} {hi z N : Nat} (h : FX D hi)    {s : mst} : F_M_isPair_34 N   (mkM h0 B D hi z s) = (G_M_isPair_34 N   s).map (cvM h0 B D hi z) := by
  simp only [F_M_isPair_34, G_M_isPair_34, aim_91 h, rdm_85_10 h, sg_M_isCable h, sg_M_isIn h, sG_M_isPair_35 h, Option.bind_some, Option.map_bind, Option.bind_map, Option.map_some, Option.map_none, Option.bind_none, apply_ite (Option.map _), if_true, Function.comp_def, cvM]
  all_goals rfl
def G_M_isPair (N : Nat) (s : mst) (p0 : Int32) (p1 : Int32) (p2 : Int32) : Option (Int32 × mst) :=
    (G_M_isCable N s p0 p1).bind fun r2 =>
    if r2.1 = 0 then
    G_M_isPair_34 N r2.2
    else
    ((rdA r2.2 91 49 ((7 * p0) + p1)).bind fun v3 =>
    (G_M_isIn N r2.2 p2 0 (v3 - 1)).bind fun r5 =>
    if r5.1 = 0 then
    G_M_isPair_34 N r5.2
    else
    G_M_isPair_35 N 1 r5.2)
theorem sg_M_isPair {h0 : Nat → pm_C} {B : Nat} {D : Nat → pd} {hi z N : Nat} (h : FX D hi) {p0 : Int32} {p1 : Int32} {p2 : Int32} {s : mst} : F_M_isPair N (mkM h0 B D hi z s) (B + 85) p0 p1 p2 = (G_M_isPair N s p0 p1 p2).map (cvM h0 B D hi z) := by
  simp only [F_M_isPair, G_M_isPair, aim_91 h, rdm_85_10 h, sg_M_isCable h, sg_M_isIn h, sG_M_isPair_35 h, sG_M_isPair_34 h, rcm_85 h, Option.bind_some, Option.map_bind, Option.bind_map, Option.map_some, Option.map_none, Option.bind_none, apply_ite (Option.map _), if_true, Function.comp_def, cvM]
  all_goals rfl
def G_M_slip_44 (N : Nat)   (s : mst) : Option (Int32 × mst) :=
    some ((-1), s)
theorem sG_M_slip_44 {h0 : Nat → pm_C} {B : Nat} {D : Nat → pd} {hi z N : Nat} (h : FX D hi)    {s : mst} : F_M_slip_44 N   (mkM h0 B D hi z s) = (G_M_slip_44 N   s).map (cvM h0 B D hi z) := by
  simp only [F_M_slip_44, G_M_slip_44, aim_89 h, aim_90 h, aim_99 h, rdm_85_18 h, rdm_85_8 h, rdm_85_9 h, sg_M_isIn h, sg_M_isPair h, sg_M_isPlan h, sg_M_tell h, sim_99 h, wrm_85_0 h, Option.bind_some, Option.map_bind, Option.bind_map, Option.map_some, Option.map_none, Option.bind_none, apply_ite (Option.map _), if_true, Function.comp_def, cvM]
  all_goals rfl
def G_M_slip_102 (N : Nat)   (s : mst) : Option (Int32 × mst) :=
    some ((-1), s)
theorem sG_M_slip_102 {h0 : Nat → pm_C} {B : Nat} {D : Nat → pd} {hi z N : Nat} (h : FX D hi)    {s : mst} : F_M_slip_102 N   (mkM h0 B D hi z s) = (G_M_slip_102 N   s).map (cvM h0 B D hi z) := by
  simp only [F_M_slip_102, G_M_slip_102, aim_89 h, aim_90 h, aim_99 h, rdm_85_18 h, rdm_85_8 h, rdm_85_9 h, sg_M_isIn h, sg_M_isPair h, sg_M_isPlan h, sg_M_tell h, sim_99 h, wrm_85_0 h, sG_M_slip_44 h, Option.bind_some, Option.map_bind, Option.bind_map, Option.map_some, Option.map_none, Option.bind_none, apply_ite (Option.map _), if_true, Function.comp_def, cvM]
  all_goals rfl
def G_M_slip_104 (N : Nat)  (x1 : Int32) (x2 : Int32) (x3 : Int32) (x4 : Int32) (x5 : Int32) (x6 : Int32) (s : mst) : Option (Int32 × mst) :=
    (G_M_tell N s x1 x2 x3 x4 x5 x6).bind fun s12 =>
    (rdA s12 99 7 x1).bind fun v13 =>
    (stA 0 s12 99 7 x1 (v13 + 1)).bind fun s14 =>
    (rdA s14 99 7 x1).bind fun v15 =>
    some (v15 - 1, s14)
theorem sG_M_slip_104 {h0 : Nat → pm_C} {B : Nat} {D : Nat → pd} {hi z N : Nat} (h : FX D hi)   {x1 : Int32} {x2 : Int32} {x3 : Int32} {x4 : Int32} {x5 : Int32} {x6 : Int32} {s : mst} : F_M_slip_104 N  (B + 85) x1 x2 x3 x4 x5 x6 (mkM h0 B D hi z s) = (G_M_slip_104 N  x1 x2 x3 x4 x5 x6 s).map (cvM h0 B D hi z) := by
  simp only [F_M_slip_104, G_M_slip_104, aim_89 h, aim_90 h, aim_99 h, rdm_85_18 h, rdm_85_8 h, rdm_85_9 h, sg_M_isIn h, sg_M_isPair h, sg_M_isPlan h, sg_M_tell h, sim_99 h, wrm_85_0 h, sG_M_slip_44 h, sG_M_slip_102 h, Option.bind_some, Option.map_bind, Option.bind_map, Option.map_some, Option.map_none, Option.bind_none, apply_ite (Option.map _), if_true, Function.comp_def, cvM]
  all_goals rfl
def G_M_slip (N : Nat) (s : mst) (p0 : Int32) (p1 : Int32) (p2 : Int32) (p3 : Int32) (p4 : Int32) (p5 : Int32) : Option (Int32 × mst) :=
    (G_M_isPlan N (wrI s 85 0 0) p0).bind fun r2 =>
    if r2.1 = 0 then
    G_M_slip_44 N r2.2
    else
    ((rdA r2.2 99 7 p0).bind fun v3 =>
    if v3 = 6 then
    G_M_slip_44 N r2.2
    else
    ((G_M_isIn N r2.2 p1 0 1).bind fun r5 =>
    if r5.1 = 0 then
    G_M_slip_44 N r5.2
    else
    ((G_M_isPair N r5.2 p0 p2 p3).bind fun r7 =>
    if r7.1 = 0 then
    G_M_slip_44 N r7.2
    else
    (if p1 = 0 then
    ((G_M_isPair N r7.2 p0 p4 p5).bind fun r9 =>
    if r9.1 = 0 then
    G_M_slip_102 N r9.2
    else
    ((rdA r9.2 89 49 ((7 * p0) + p4)).bind fun v10 =>
    (rdA r9.2 90 49 ((7 * p0) + p2)).bind fun v11 =>
    if v10 = v11 then
    G_M_slip_104 N p0 p1 p2 p3 p4 p5 r9.2
    else
    G_M_slip_102 N r9.2))
    else
    ((G_M_isIn N r7.2 p4 0 9).bind fun r17 =>
    if r17.1 = 0 then
    G_M_slip_102 N r17.2
    else
    G_M_slip_104 N p0 p1 p2 p3 p4 p5 r17.2)))))
theorem sg_M_slip {h0 : Nat → pm_C} {B : Nat} {D : Nat → pd} {hi z N : Nat} (h : FX D hi) {p0 : Int32} {p1 : Int32} {p2 : Int32} {p3 : Int32} {p4 : Int32} {p5 : Int32} {s : mst} : F_M_slip N (mkM h0 B D hi z s) (B + 85) p0 p1 p2 p3 p4 p5 = (G_M_slip N s p0 p1 p2 p3 p4 p5).map (cvM h0 B D hi z) := by
  simp only [F_M_slip, G_M_slip, aim_89 h, aim_90 h, aim_99 h, rdm_85_18 h, rdm_85_8 h, rdm_85_9 h, sg_M_isIn h, sg_M_isPair h, sg_M_isPlan h, sg_M_tell h, sim_99 h, wrm_85_0 h, sG_M_slip_44 h, sG_M_slip_102 h, sG_M_slip_104 h, rcm_85 h, Option.bind_some, Option.map_bind, Option.bind_map, Option.map_some, Option.map_none, Option.bind_none, apply_ite (Option.map _), if_true, Function.comp_def, cvM]
  all_goals rfl
def G_M_trouble_33 (N : Nat)   (s : mst) : Option (Int32 × mst) :=
    some ((-1), s)
theorem sG_M_trouble_33 {h0 : Nat → pm_C} {B : Nat} {D : Nat → pd} {hi z N : Nat} (h : FX D hi)    {s : mst} : F_M_trouble_33 N   (mkM h0 B D hi z s) = (G_M_trouble_33 N   s).map (cvM h0 B D hi z) := by
  simp only [F_M_trouble_33, G_M_trouble_33, aim_100 h, aim_92 h, aim_99 h, rdm_85_11 h, rdm_85_18 h, rdm_85_20 h, rdm_85_21 h, rdm_85_22 h, rdm_85_23 h, rdm_85_24 h, rdm_85_25 h, sg_M_isIn h, sg_M_isPair h, sg_M_isPlan h, sim_100 h, sim_101 h, sim_102 h, sim_103 h, sim_104 h, sim_105 h, wrm_85_0 h, Option.bind_some, Option.map_bind, Option.bind_map, Option.map_some, Option.map_none, Option.bind_none, apply_ite (Option.map _), if_true, Function.comp_def, cvM]
  all_goals rfl
def G_M_trouble_119 (N : Nat)  (x1 : Int32) (x2 : Int32) (x3 : Int32) (x4 : Int32) (x5 : Int32) (x6 : Int32) (t0 : Int32) (s : mst) : Option (Int32 × mst) :=
    if t0 = 0 then
    some ((-1), s)
    else
    ((rdA s 100 7 x1).bind fun v9 =>
    (stA 0 s 101 60 ((10 * x1) + v9) x2).bind fun s10 =>
    (stA 0 s10 102 60 ((10 * x1) + v9) x3).bind fun s11 =>
    (stA 0 s11 103 60 ((10 * x1) + v9) x4).bind fun s12 =>
    (stA 0 s12 104 60 ((10 * x1) + v9) x5).bind fun s13 =>
    (stA 0 s13 105 60 ((10 * x1) + v9) x6).bind fun s14 =>
    (rdA s14 100 7 x1).bind fun v15 =>
    (stA 0 s14 100 7 x1 (v15 + 1)).bind fun s16 =>
    (rdA s16 100 7 x1).bind fun v17 =>
    some (v17 - 1, s16))
theorem sG_M_trouble_119 {h0 : Nat → pm_C} {B : Nat} {D : Nat → pd} {hi z N : Nat} (h : FX D hi)   {x1 : Int32} {x2 : Int32} {x3 : Int32} {x4 : Int32} {x5 : Int32} {x6 : Int32} {t0 : Int32} {s : mst} : F_M_trouble_119 N  (B + 85) x1 x2 x3 x4 x5 x6 t0 (mkM h0 B D hi z s) = (G_M_trouble_119 N  x1 x2 x3 x4 x5 x6 t0 s).map (cvM h0 B D hi z) := by
  simp only [F_M_trouble_119, G_M_trouble_119, aim_100 h, aim_92 h, aim_99 h, rdm_85_11 h, rdm_85_18 h, rdm_85_20 h, rdm_85_21 h, rdm_85_22 h, rdm_85_23 h, rdm_85_24 h, rdm_85_25 h, sg_M_isIn h, sg_M_isPair h, sg_M_isPlan h, sim_100 h, sim_101 h, sim_102 h, sim_103 h, sim_104 h, sim_105 h, wrm_85_0 h, sG_M_trouble_33 h, Option.bind_some, Option.map_bind, Option.bind_map, Option.map_some, Option.map_none, Option.bind_none, apply_ite (Option.map _), if_true, Function.comp_def, cvM]
  all_goals rfl
def G_M_trouble_118 (N : Nat)  (x1 : Int32) (x2 : Int32) (x3 : Int32) (x4 : Int32) (x5 : Int32) (x6 : Int32) (s : mst) : Option (Int32 × mst) :=
    G_M_trouble_119 N x1 x2 x3 x4 x5 x6 0 s
theorem sG_M_trouble_118 {h0 : Nat → pm_C} {B : Nat} {D : Nat → pd} {hi z N : Nat} (h : FX D hi)   {x1 : Int32} {x2 : Int32} {x3 : Int32} {x4 : Int32} {x5 : Int32} {x6 : Int32} {s : mst} : F_M_trouble_118 N  (B + 85) x1 x2 x3 x4 x5 x6 (mkM h0 B D hi z s) = (G_M_trouble_118 N  x1 x2 x3 x4 x5 x6 s).map (cvM h0 B D hi z) := by
  simp only [F_M_trouble_118, G_M_trouble_118, aim_100 h, aim_92 h, aim_99 h, rdm_85_11 h, rdm_85_18 h, rdm_85_20 h, rdm_85_21 h, rdm_85_22 h, rdm_85_23 h, rdm_85_24 h, rdm_85_25 h, sg_M_isIn h, sg_M_isPair h, sg_M_isPlan h, sim_100 h, sim_101 h, sim_102 h, sim_103 h, sim_104 h, sim_105 h, wrm_85_0 h, sG_M_trouble_33 h, sG_M_trouble_119 h, Option.bind_some, Option.map_bind, Option.bind_map, Option.map_some, Option.map_none, Option.bind_none, apply_ite (Option.map _), if_true, Function.comp_def, cvM]
  all_goals rfl
def G_M_trouble_114 (N : Nat)  (x1 : Int32) (x2 : Int32) (x3 : Int32) (x4 : Int32) (x5 : Int32) (x6 : Int32) (s : mst) : Option (Int32 × mst) :=
    G_M_trouble_119 N x1 x2 x3 x4 x5 x6 1 s
theorem sG_M_trouble_114 {h0 : Nat → pm_C} {B : Nat} {D : Nat → pd} {hi z N : Nat} (h : FX D hi)   {x1 : Int32} {x2 : Int32} {x3 : Int32} {x4 : Int32} {x5 : Int32} {x6 : Int32} {s : mst} : F_M_trouble_114 N  (B + 85) x1 x2 x3 x4 x5 x6 (mkM h0 B D hi z s) = (G_M_trouble_114 N  x1 x2 x3 x4 x5 x6 s).map (cvM h0 B D hi z) := by
  simp only [F_M_trouble_114, G_M_trouble_114, aim_100 h, aim_92 h, aim_99 h, rdm_85_11 h, rdm_85_18 h, rdm_85_20 h, rdm_85_21 h, rdm_85_22 h, rdm_85_23 h, rdm_85_24 h, rdm_85_25 h, sg_M_isIn h, sg_M_isPair h, sg_M_isPlan h, sim_100 h, sim_101 h, sim_102 h, sim_103 h, sim_104 h, sim_105 h, wrm_85_0 h, sG_M_trouble_33 h, sG_M_trouble_119 h, sG_M_trouble_118 h, Option.bind_some, Option.map_bind, Option.bind_map, Option.map_some, Option.map_none, Option.bind_none, apply_ite (Option.map _), if_true, Function.comp_def, cvM]
  all_goals rfl
def G_M_trouble_90 (N : Nat)  (x1 : Int32) (x2 : Int32) (x3 : Int32) (x4 : Int32) (x5 : Int32) (x6 : Int32) (s : mst) : Option (Int32 × mst) :=
    if x2 = 0 then
    G_M_trouble_114 N x1 x2 x3 x4 x5 x6 s
    else
    ((rdA s 92 49 ((7 * x1) + x3)).bind fun v20 =>
    (G_M_isIn N s x6 0 v20).bind fun r22 =>
    if r22.1 = 0 then
    G_M_trouble_118 N x1 x2 x3 x4 x5 x6 r22.2
    else
    G_M_trouble_114 N x1 x2 x3 x4 x5 x6 r22.2)
theorem sG_M_trouble_90 {h0 : Nat → pm_C} {B : Nat} {D : Nat → pd} {hi z N : Nat} (h : FX D hi)   {x1 : Int32} {x2 : Int32} {x3 : Int32} {x4 : Int32} {x5 : Int32} {x6 : Int32} {s : mst} : F_M_trouble_90 N  (B + 85) x1 x2 x3 x4 x5 x6 (mkM h0 B D hi z s) = (G_M_trouble_90 N  x1 x2 x3 x4 x5 x6 s).map (cvM h0 B D hi z) := by
  simp only [F_M_trouble_90, G_M_trouble_90, aim_100 h, aim_92 h, aim_99 h, rdm_85_11 h, rdm_85_18 h, rdm_85_20 h, rdm_85_21 h, rdm_85_22 h, rdm_85_23 h, rdm_85_24 h, rdm_85_25 h, sg_M_isIn h, sg_M_isPair h, sg_M_isPlan h, sim_100 h, sim_101 h, sim_102 h, sim_103 h, sim_104 h, sim_105 h, wrm_85_0 h, sG_M_trouble_33 h, sG_M_trouble_119 h, sG_M_trouble_118 h, sG_M_trouble_114 h, Option.bind_some, Option.map_bind, Option.bind_map, Option.map_some, Option.map_none, Option.bind_none, apply_ite (Option.map _), if_true, Function.comp_def, cvM]
  all_goals rfl
def G_M_trouble (N : Nat) (s : mst) (p0 : Int32) (p1 : Int32) (p2 : Int32) (p3 : Int32) (p4 : Int32) (p5 : Int32) : Option (Int32 × mst) :=
    (G_M_isPlan N (wrI s 85 0 0) p0).bind fun r2 =>
    if r2.1 = 0 then
    G_M_trouble_33 N r2.2
    else
    ((rdA r2.2 100 7 p0).bind fun v3 =>
    if v3 = 10 then
    G_M_trouble_33 N r2.2
    else
    ((G_M_isIn N r2.2 p1 0 3).bind fun r5 =>
    if r5.1 = 0 then
    G_M_trouble_33 N r5.2
    else
    (if p1 = 3 then
    ((rdA r5.2 99 7 p0).bind fun v6 =>
    (G_M_isIn N r5.2 p2 0 (v6 - 1)).bind fun r8 =>
    G_M_trouble_119 N p0 p1 p2 p3 p4 p5 r8.1 r8.2)
    else
    ((G_M_isPair N r5.2 p0 p2 p3).bind fun r19 =>
    if r19.1 = 0 then
    G_M_trouble_118 N p0 p1 p2 p3 p4 p5 r19.2
    else
    (if p1 = 1 then
    G_M_trouble_90 N p0 p1 p2 p3 p4 p5 r19.2
    else
    ((G_M_isPair N r19.2 p0 p2 p4).bind fun r24 =>
    if r24.1 = 0 then
    G_M_trouble_118 N p0 p1 p2 p3 p4 p5 r24.2
    else
    (if p3 = p4 then
    G_M_trouble_118 N p0 p1 p2 p3 p4 p5 r24.2
    else
    G_M_trouble_90 N p0 p1 p2 p3 p4 p5 r24.2)))))))
theorem sg_M_trouble {h0 : Nat → pm_C} {B : Nat} {D : Nat → pd} {hi z N : Nat} (h : FX D hi) {p0 : Int32} {p1 : Int32} {p2 : Int32} {p3 : Int32} {p4 : Int32} {p5 : Int32} {s : mst} : F_M_trouble N (mkM h0 B D hi z s) (B + 85) p0 p1 p2 p3 p4 p5 = (G_M_trouble N s p0 p1 p2 p3 p4 p5).map (cvM h0 B D hi z) := by
  simp only [F_M_trouble, G_M_trouble, aim_100 h, aim_92 h, aim_99 h, rdm_85_11 h, rdm_85_18 h, rdm_85_20 h, rdm_85_21 h, rdm_85_22 h, rdm_85_23 h, rdm_85_24 h, rdm_85_25 h, sg_M_isIn h, sg_M_isPair h, sg_M_isPlan h, sim_100 h, sim_101 h, sim_102 h, sim_103 h, sim_104 h, sim_105 h, wrm_85_0 h, sG_M_trouble_33 h, sG_M_trouble_119 h, sG_M_trouble_118 h, sG_M_trouble_114 h, sG_M_trouble_90 h, rcm_85 h, Option.bind_some, Option.map_bind, Option.bind_map, Option.map_some, Option.map_none, Option.bind_none, apply_ite (Option.map _), if_true, Function.comp_def, cvM]
  all_goals rfl
def G_M_troubles_23 (N : Nat)  (t0 : Int32) (s : mst) : Option (Int32 × mst) :=
    some (t0, s)
theorem sG_M_troubles_23 {h0 : Nat → pm_C} {B : Nat} {D : Nat → pd} {hi z N : Nat} (h : FX D hi)   {t0 : Int32} {s : mst} : F_M_troubles_23 N  t0 (mkM h0 B D hi z s) = (G_M_troubles_23 N  t0 s).map (cvM h0 B D hi z) := by
  simp only [F_M_troubles_23, G_M_troubles_23, aim_100 h, rdm_85_20 h, sg_M_isPlan h, wrm_85_0 h, Option.bind_some, Option.map_bind, Option.bind_map, Option.map_some, Option.map_none, Option.bind_none, apply_ite (Option.map _), if_true, Function.comp_def, cvM]
  all_goals rfl
def G_M_troubles (N : Nat) (s : mst) (p0 : Int32) : Option (Int32 × mst) :=
    (G_M_isPlan N (wrI s 85 0 0) p0).bind fun r2 =>
    if r2.1 = 0 then
    G_M_troubles_23 N (-1) r2.2
    else
    ((rdA r2.2 100 7 p0).bind fun v3 =>
    G_M_troubles_23 N v3 r2.2)
theorem sg_M_troubles {h0 : Nat → pm_C} {B : Nat} {D : Nat → pd} {hi z N : Nat} (h : FX D hi) {p0 : Int32} {s : mst} : F_M_troubles N (mkM h0 B D hi z s) (B + 85) p0 = (G_M_troubles N s p0).map (cvM h0 B D hi z) := by
  simp only [F_M_troubles, G_M_troubles, aim_100 h, rdm_85_20 h, sg_M_isPlan h, wrm_85_0 h, sG_M_troubles_23 h, rcm_85 h, Option.bind_some, Option.map_bind, Option.bind_map, Option.map_some, Option.map_none, Option.bind_none, apply_ite (Option.map _), if_true, Function.comp_def, cvM]
  all_goals rfl
def G_M_isWorld_29 (N : Nat)  (t0 : Int32) (s : mst) : Option (Int32 × mst) :=
    if t0 = 0 ∨ t0 = 1 then some (t0, s) else none
theorem sG_M_isWorld_29 {h0 : Nat → pm_C} {B : Nat} {D : Nat → pd} {hi z N : Nat} (h : FX D hi)   {t0 : Int32} {s : mst} : F_M_isWorld_29 N  t0 (mkM h0 B D hi z s) = (G_M_isWorld_29 N  t0 s).map (cvM h0 B D hi z) := by
  simp only [F_M_isWorld_29, G_M_isWorld_29, aim_100 h, rdm_85_20 h, sg_M_isPlan h, Option.bind_some, Option.map_bind, Option.bind_map, Option.map_some, Option.map_none, Option.bind_none, apply_ite (Option.map _), if_true, Function.comp_def, cvM]
  all_goals rfl
def G_M_isWorld_28 (N : Nat)   (s : mst) : Option (Int32 × mst) :=
    G_M_isWorld_29 N 0 s
theorem sG_M_isWorld_28 {h0 : Nat → pm_C} {B : Nat} {D : Nat → pd} {hi z N : Nat} (h : FX D hi)    {s : mst} : F_M_isWorld_28 N   (mkM h0 B D hi z s) = (G_M_isWorld_28 N   s).map (cvM h0 B D hi z) := by
  simp only [F_M_isWorld_28, G_M_isWorld_28, aim_100 h, rdm_85_20 h, sg_M_isPlan h, sG_M_isWorld_29 h, Option.bind_some, Option.map_bind, Option.bind_map, Option.map_some, Option.map_none, Option.bind_none, apply_ite (Option.map _), if_true, Function.comp_def, cvM]
  all_goals rfl
def G_M_isWorld (N : Nat) (s : mst) (p0 : Int32) (p1 : Int32) : Option (Int32 × mst) :=
    (G_M_isPlan N s p0).bind fun r2 =>
    if r2.1 = 0 then
    G_M_isWorld_28 N r2.2
    else
    (if p1 < 0 then
    G_M_isWorld_28 N r2.2
    else
    ((rdA r2.2 100 7 p0).bind fun v3 =>
    if (1 <<< (v3 &&& 31)) ≤ p1 then
    G_M_isWorld_28 N r2.2
    else
    G_M_isWorld_29 N 1 r2.2))
theorem sg_M_isWorld {h0 : Nat → pm_C} {B : Nat} {D : Nat → pd} {hi z N : Nat} (h : FX D hi) {p0 : Int32} {p1 : Int32} {s : mst} : F_M_isWorld N (mkM h0 B D hi z s) (B + 85) p0 p1 = (G_M_isWorld N s p0 p1).map (cvM h0 B D hi z) := by
  simp only [F_M_isWorld, G_M_isWorld, aim_100 h, rdm_85_20 h, sg_M_isPlan h, sG_M_isWorld_29 h, sG_M_isWorld_28 h, rcm_85 h, Option.bind_some, Option.map_bind, Option.bind_map, Option.map_some, Option.map_none, Option.bind_none, apply_ite (Option.map _), if_true, Function.comp_def, cvM]
  all_goals rfl
def G_M_isEnd (N : Nat) (s : mst) (p0 : Int32) : Option (Int32 × mst) :=
    (G_M_isIn N s p0 0 1).bind fun r2 =>
    if r2.1 = 0 ∨ r2.1 = 1 then some (r2.1, r2.2) else none
theorem sg_M_isEnd {h0 : Nat → pm_C} {B : Nat} {D : Nat → pd} {hi z N : Nat} (h : FX D hi) {p0 : Int32} {s : mst} : F_M_isEnd N (mkM h0 B D hi z s)  p0 = (G_M_isEnd N s p0).map (cvM h0 B D hi z) := by
  simp only [F_M_isEnd, G_M_isEnd, sg_M_isIn h, Option.bind_some, Option.map_bind, Option.bind_map, Option.map_some, Option.map_none, Option.bind_none, apply_ite (Option.map _), if_true, Function.comp_def, cvM]
  all_goals rfl
def G_M_isSo_17 (N : Nat)  (t0 : Int32) (s : mst) : Option (Int32 × mst) :=
    if t0 = 0 ∨ t0 = 1 then some (t0, s) else none
theorem sG_M_isSo_17 {h0 : Nat → pm_C} {B : Nat} {D : Nat → pd} {hi z N : Nat} (h : FX D hi)   {t0 : Int32} {s : mst} : F_M_isSo_17 N  t0 (mkM h0 B D hi z s) = (G_M_isSo_17 N  t0 s).map (cvM h0 B D hi z) := by
  simp only [F_M_isSo_17, G_M_isSo_17, rdm_85_30 h, Option.bind_some, Option.map_bind, Option.bind_map, Option.map_some, Option.map_none, Option.bind_none, apply_ite (Option.map _), if_true, Function.comp_def, cvM]
  all_goals rfl
def G_M_isSo (N : Nat) (s : mst) (p0 : Int32) : Option (Int32 × mst) :=
    if (((s.1 85 30) >>> (p0 &&& 31)) &&& 1) = 1 then
    G_M_isSo_17 N 1 s
    else
    G_M_isSo_17 N 0 s
theorem sg_M_isSo {h0 : Nat → pm_C} {B : Nat} {D : Nat → pd} {hi z N : Nat} (h : FX D hi) {p0 : Int32} {s : mst} : F_M_isSo N (mkM h0 B D hi z s) (B + 85) p0 = (G_M_isSo N s p0).map (cvM h0 B D hi z) := by
  simp only [F_M_isSo, G_M_isSo, rdm_85_30 h, sG_M_isSo_17 h, rcm_85 h, Option.bind_some, Option.map_bind, Option.bind_map, Option.map_some, Option.map_none, Option.bind_none, apply_ite (Option.map _), if_true, Function.comp_def, cvM]
  all_goals rfl
def G_M_isUndone_67 (N : Nat)   (s : mst) : Option (Int32 × mst) :=
    some (0, s)
theorem sG_M_isUndone_67 {h0 : Nat → pm_C} {B : Nat} {D : Nat → pd} {hi z N : Nat} (h : FX D hi)    {s : mst} : F_M_isUndone_67 N   (mkM h0 B D hi z s) = (G_M_isUndone_67 N   s).map (cvM h0 B D hi z) := by
  simp only [F_M_isUndone_67, G_M_isUndone_67, aim_100 h, aim_101 h, aim_102 h, rdm_85_20 h, rdm_85_21 h, rdm_85_22 h, rdm_85_29 h, sg_M_isSo h, Option.bind_some, Option.map_bind, Option.bind_map, Option.map_some, Option.map_none, Option.bind_none, apply_ite (Option.map _), if_true, Function.comp_def, cvM]
  all_goals rfl
def G_M_isUndone_61 (N : Nat) (rec2 : Int32 → mst → Option (Int32 × mst)) (x1 : Int32) (x2 : Int32) (s : mst) : Option (Int32 × mst) :=
    rec2 (x2 + 1) s
theorem sG_M_isUndone_61 {h0 : Nat → pm_C} {B : Nat} {D : Nat → pd} {hi z N : Nat} (h : FX D hi) {rec2 : Int32 → pm_S → Option (Int32 × pm_S)} {grec2 : Int32 → mst → Option (Int32 × mst)} (hrec2 : ∀ (y1 : Int32) (s : mst), rec2 y1 (mkM h0 B D hi z s) = (grec2 y1 s).map (cvM h0 B D hi z)) {x1 : Int32} {x2 : Int32} {s : mst} : F_M_isUndone_61 N rec2 (B + 85) x1 x2 (mkM h0 B D hi z s) = (G_M_isUndone_61 N grec2 x1 x2 s).map (cvM h0 B D hi z) := by
  simp only [F_M_isUndone_61, G_M_isUndone_61, aim_100 h, aim_101 h, aim_102 h, rdm_85_20 h, rdm_85_21 h, rdm_85_22 h, rdm_85_29 h, sg_M_isSo h, sG_M_isUndone_67 h, hrec2, Option.bind_some, Option.map_bind, Option.bind_map, Option.map_some, Option.map_none, Option.bind_none, apply_ite (Option.map _), if_true, Function.comp_def, cvM]
  all_goals rfl
def G_M_isUndone_59 (N : Nat)   (s : mst) : Option (Int32 × mst) :=
    some (1, s)
theorem sG_M_isUndone_59 {h0 : Nat → pm_C} {B : Nat} {D : Nat → pd} {hi z N : Nat} (h : FX D hi)    {s : mst} : F_M_isUndone_59 N   (mkM h0 B D hi z s) = (G_M_isUndone_59 N   s).map (cvM h0 B D hi z) := by
  simp only [F_M_isUndone_59, G_M_isUndone_59, aim_100 h, aim_101 h, aim_102 h, rdm_85_20 h, rdm_85_21 h, rdm_85_22 h, rdm_85_29 h, sg_M_isSo h, sG_M_isUndone_67 h, Option.bind_some, Option.map_bind, Option.bind_map, Option.map_some, Option.map_none, Option.bind_none, apply_ite (Option.map _), if_true, Function.comp_def, cvM]
  all_goals rfl
def GB_M_isUndone_2 (N : Nat)  (rec2 : Int32 → mst → Option (Int32 × mst)) (x1 : Int32) (x2 : Int32) (s : mst) : Option (Int32 × mst) :=
    (rdA s 100 7 (s.1 85 29)).bind fun v1 =>
    if v1 ≤ x2 then
    G_M_isUndone_67 N s
    else
    ((G_M_isSo N s x2).bind fun r3 =>
    if r3.1 = 0 then
    G_M_isUndone_61 N rec2 x1 x2 r3.2
    else
    ((rdA r3.2 101 60 ((10 * (r3.2.1 85 29)) + x2)).bind fun v4 =>
    if v4 = 3 then
    ((rdA r3.2 102 60 ((10 * (r3.2.1 85 29)) + x2)).bind fun v5 =>
    if v5 = x1 then
    G_M_isUndone_59 N r3.2
    else
    G_M_isUndone_61 N rec2 x1 x2 r3.2)
    else
    G_M_isUndone_61 N rec2 x1 x2 r3.2))
theorem sGB_M_isUndone_2 {h0 : Nat → pm_C} {B : Nat} {D : Nat → pd} {hi z N : Nat} (h : FX D hi) {rec2 : Int32 → pm_S → Option (Int32 × pm_S)} {grec2 : Int32 → mst → Option (Int32 × mst)} (hrec2 : ∀ (y1 : Int32) (s : mst), rec2 y1 (mkM h0 B D hi z s) = (grec2 y1 s).map (cvM h0 B D hi z)) {x1 : Int32} {x2 : Int32} {s : mst} : B_M_isUndone_2 N rec2 (B + 85) x1 x2 (mkM h0 B D hi z s) = (GB_M_isUndone_2 N grec2 x1 x2 s).map (cvM h0 B D hi z) := by
  simp only [B_M_isUndone_2, GB_M_isUndone_2, aim_100 h, aim_101 h, aim_102 h, rdm_85_20 h, rdm_85_21 h, rdm_85_22 h, rdm_85_29 h, sg_M_isSo h, sG_M_isUndone_67 h, sG_M_isUndone_61 h hrec2, sG_M_isUndone_59 h, hrec2, Option.bind_some, Option.map_bind, Option.bind_map, Option.map_some, Option.map_none, Option.bind_none, apply_ite (Option.map _), if_true, Function.comp_def, cvM]
  all_goals rfl
def G_M_isUndone_2 (N : Nat)  (x1 : Int32) : Nat → Int32 → mst → Option (Int32 × mst)
  | 0 => fun _ _ => none
  | n + 1 => fun x2 s => GB_M_isUndone_2 N  (G_M_isUndone_2 N  x1 n) x1 x2 s
theorem sG_M_isUndone_2 {h0 : Nat → pm_C} {B : Nat} {D : Nat → pd} {hi z N : Nat} (h : FX D hi)   {x1 : Int32} : ∀ (n : Nat) (x2 : Int32) (s : mst), F_M_isUndone_2 N  (B + 85) x1 n x2 (mkM h0 B D hi z s) = (G_M_isUndone_2 N  x1 n x2 s).map (cvM h0 B D hi z) := by
  intro n
  induction n with
  | zero => intro x2 s; rfl
  | succ n ih => intro x2 s; exact sGB_M_isUndone_2 h  ih
def G_M_isUndone (N : Nat) (s : mst) (p0 : Int32) : Option (Int32 × mst) :=
    G_M_isUndone_2 N p0 N 0 s
theorem sg_M_isUndone {h0 : Nat → pm_C} {B : Nat} {D : Nat → pd} {hi z N : Nat} (h : FX D hi) {p0 : Int32} {s : mst} : F_M_isUndone N (mkM h0 B D hi z s) (B + 85) p0 = (G_M_isUndone N s p0).map (cvM h0 B D hi z) := by
  simp only [F_M_isUndone, G_M_isUndone, aim_100 h, aim_101 h, aim_102 h, rdm_85_20 h, rdm_85_21 h, rdm_85_22 h, rdm_85_29 h, sg_M_isSo h, sG_M_isUndone_67 h, sG_M_isUndone_59 h, sG_M_isUndone_2 h, rcm_85 h, Option.bind_some, Option.map_bind, Option.bind_map, Option.map_some, Option.map_none, Option.bind_none, apply_ite (Option.map _), if_true, Function.comp_def, cvM]
  all_goals rfl
def G_M_unhang_31 (N : Nat)   (s : mst) : Option mst :=
    some s
theorem sG_M_unhang_31 {h0 : Nat → pm_C} {B : Nat} {D : Nat → pd} {hi z N : Nat} (h : FX D hi)    {s : mst} : F_M_unhang_31 N   (mkM h0 B D hi z s) = (G_M_unhang_31 N   s).map (mkM h0 B D hi z) := by
  simp only [F_M_unhang_31, G_M_unhang_31, aim_107 h, rdm_85_27 h, sim_107 h, Option.bind_some, Option.map_bind, Option.bind_map, Option.map_some, Option.map_none, Option.bind_none, apply_ite (Option.map _), if_true, Function.comp_def, cvM]
  all_goals rfl
def G_M_unhang_25 (N : Nat) (rec2 : Int32 → mst → Option mst) (x1 : Int32) (x2 : Int32) (s : mst) : Option mst :=
    rec2 (x2 + 1) s
theorem sG_M_unhang_25 {h0 : Nat → pm_C} {B : Nat} {D : Nat → pd} {hi z N : Nat} (h : FX D hi) {rec2 : Int32 → pm_S → Option pm_S} {grec2 : Int32 → mst → Option mst} (hrec2 : ∀ (y1 : Int32) (s : mst), rec2 y1 (mkM h0 B D hi z s) = (grec2 y1 s).map (mkM h0 B D hi z)) {x1 : Int32} {x2 : Int32} {s : mst} : F_M_unhang_25 N rec2 (B + 85) x1 x2 (mkM h0 B D hi z s) = (G_M_unhang_25 N grec2 x1 x2 s).map (mkM h0 B D hi z) := by
  simp only [F_M_unhang_25, G_M_unhang_25, aim_107 h, rdm_85_27 h, sim_107 h, sG_M_unhang_31 h, hrec2, Option.bind_some, Option.map_bind, Option.bind_map, Option.map_some, Option.map_none, Option.bind_none, apply_ite (Option.map _), if_true, Function.comp_def, cvM]
  all_goals rfl
def GB_M_unhang_2 (N : Nat)  (rec2 : Int32 → mst → Option mst) (x1 : Int32) (x2 : Int32) (s : mst) : Option mst :=
    if 42 ≤ x2 then
    G_M_unhang_31 N s
    else
    ((rdA s 107 42 x2).bind fun v1 =>
    if v1 = x1 then
    ((stA 0 s 107 42 x2 (-1)).bind fun s2 =>
    G_M_unhang_25 N rec2 x1 x2 s2)
    else
    G_M_unhang_25 N rec2 x1 x2 s)
theorem sGB_M_unhang_2 {h0 : Nat → pm_C} {B : Nat} {D : Nat → pd} {hi z N : Nat} (h : FX D hi) {rec2 : Int32 → pm_S → Option pm_S} {grec2 : Int32 → mst → Option mst} (hrec2 : ∀ (y1 : Int32) (s : mst), rec2 y1 (mkM h0 B D hi z s) = (grec2 y1 s).map (mkM h0 B D hi z)) {x1 : Int32} {x2 : Int32} {s : mst} : B_M_unhang_2 N rec2 (B + 85) x1 x2 (mkM h0 B D hi z s) = (GB_M_unhang_2 N grec2 x1 x2 s).map (mkM h0 B D hi z) := by
  simp only [B_M_unhang_2, GB_M_unhang_2, aim_107 h, rdm_85_27 h, sim_107 h, sG_M_unhang_31 h, sG_M_unhang_25 h hrec2, hrec2, Option.bind_some, Option.map_bind, Option.bind_map, Option.map_some, Option.map_none, Option.bind_none, apply_ite (Option.map _), if_true, Function.comp_def, cvM]
  all_goals rfl
def G_M_unhang_2 (N : Nat)  (x1 : Int32) : Nat → Int32 → mst → Option mst
  | 0 => fun _ _ => none
  | n + 1 => fun x2 s => GB_M_unhang_2 N  (G_M_unhang_2 N  x1 n) x1 x2 s
theorem sG_M_unhang_2 {h0 : Nat → pm_C} {B : Nat} {D : Nat → pd} {hi z N : Nat} (h : FX D hi)   {x1 : Int32} : ∀ (n : Nat) (x2 : Int32) (s : mst), F_M_unhang_2 N  (B + 85) x1 n x2 (mkM h0 B D hi z s) = (G_M_unhang_2 N  x1 n x2 s).map (mkM h0 B D hi z) := by
  intro n
  induction n with
  | zero => intro x2 s; rfl
  | succ n ih => intro x2 s; exact sGB_M_unhang_2 h  ih
def G_M_unhang (N : Nat) (s : mst) (p0 : Int32) : Option mst :=
    G_M_unhang_2 N p0 N 0 s
theorem sg_M_unhang {h0 : Nat → pm_C} {B : Nat} {D : Nat → pd} {hi z N : Nat} (h : FX D hi) {p0 : Int32} {s : mst} : F_M_unhang N (mkM h0 B D hi z s) (B + 85) p0 = (G_M_unhang N s p0).map (mkM h0 B D hi z) := by
  simp only [F_M_unhang, G_M_unhang, aim_107 h, rdm_85_27 h, sim_107 h, sG_M_unhang_31 h, sG_M_unhang_2 h, rcm_85 h, Option.bind_some, Option.map_bind, Option.bind_map, Option.map_some, Option.map_none, Option.bind_none, apply_ite (Option.map _), if_true, Function.comp_def, cvM]
  all_goals rfl
def G_M_unjoin_31 (N : Nat)   (s : mst) : Option mst :=
    some s
theorem sG_M_unjoin_31 {h0 : Nat → pm_C} {B : Nat} {D : Nat → pd} {hi z N : Nat} (h : FX D hi)    {s : mst} : F_M_unjoin_31 N   (mkM h0 B D hi z s) = (G_M_unjoin_31 N   s).map (mkM h0 B D hi z) := by
  simp only [F_M_unjoin_31, G_M_unjoin_31, aim_106 h, rdm_85_26 h, sim_106 h, Option.bind_some, Option.map_bind, Option.bind_map, Option.map_some, Option.map_none, Option.bind_none, apply_ite (Option.map _), if_true, Function.comp_def, cvM]
  all_goals rfl
def G_M_unjoin_25 (N : Nat) (rec2 : Int32 → mst → Option mst) (x1 : Int32) (x2 : Int32) (s : mst) : Option mst :=
    rec2 (x2 + 1) s
theorem sG_M_unjoin_25 {h0 : Nat → pm_C} {B : Nat} {D : Nat → pd} {hi z N : Nat} (h : FX D hi) {rec2 : Int32 → pm_S → Option pm_S} {grec2 : Int32 → mst → Option mst} (hrec2 : ∀ (y1 : Int32) (s : mst), rec2 y1 (mkM h0 B D hi z s) = (grec2 y1 s).map (mkM h0 B D hi z)) {x1 : Int32} {x2 : Int32} {s : mst} : F_M_unjoin_25 N rec2 (B + 85) x1 x2 (mkM h0 B D hi z s) = (G_M_unjoin_25 N grec2 x1 x2 s).map (mkM h0 B D hi z) := by
  simp only [F_M_unjoin_25, G_M_unjoin_25, aim_106 h, rdm_85_26 h, sim_106 h, sG_M_unjoin_31 h, hrec2, Option.bind_some, Option.map_bind, Option.bind_map, Option.map_some, Option.map_none, Option.bind_none, apply_ite (Option.map _), if_true, Function.comp_def, cvM]
  all_goals rfl
def GB_M_unjoin_2 (N : Nat)  (rec2 : Int32 → mst → Option mst) (x1 : Int32) (x2 : Int32) (s : mst) : Option mst :=
    if 42 ≤ x2 then
    G_M_unjoin_31 N s
    else
    ((rdA s 106 42 x2).bind fun v1 =>
    if v1 = x1 then
    ((stA 0 s 106 42 x2 (-1)).bind fun s2 =>
    G_M_unjoin_25 N rec2 x1 x2 s2)
    else
    G_M_unjoin_25 N rec2 x1 x2 s)
theorem sGB_M_unjoin_2 {h0 : Nat → pm_C} {B : Nat} {D : Nat → pd} {hi z N : Nat} (h : FX D hi) {rec2 : Int32 → pm_S → Option pm_S} {grec2 : Int32 → mst → Option mst} (hrec2 : ∀ (y1 : Int32) (s : mst), rec2 y1 (mkM h0 B D hi z s) = (grec2 y1 s).map (mkM h0 B D hi z)) {x1 : Int32} {x2 : Int32} {s : mst} : B_M_unjoin_2 N rec2 (B + 85) x1 x2 (mkM h0 B D hi z s) = (GB_M_unjoin_2 N grec2 x1 x2 s).map (mkM h0 B D hi z) := by
  simp only [B_M_unjoin_2, GB_M_unjoin_2, aim_106 h, rdm_85_26 h, sim_106 h, sG_M_unjoin_31 h, sG_M_unjoin_25 h hrec2, hrec2, Option.bind_some, Option.map_bind, Option.bind_map, Option.map_some, Option.map_none, Option.bind_none, apply_ite (Option.map _), if_true, Function.comp_def, cvM]
  all_goals rfl
def G_M_unjoin_2 (N : Nat)  (x1 : Int32) : Nat → Int32 → mst → Option mst
  | 0 => fun _ _ => none
  | n + 1 => fun x2 s => GB_M_unjoin_2 N  (G_M_unjoin_2 N  x1 n) x1 x2 s
theorem sG_M_unjoin_2 {h0 : Nat → pm_C} {B : Nat} {D : Nat → pd} {hi z N : Nat} (h : FX D hi)   {x1 : Int32} : ∀ (n : Nat) (x2 : Int32) (s : mst), F_M_unjoin_2 N  (B + 85) x1 n x2 (mkM h0 B D hi z s) = (G_M_unjoin_2 N  x1 n x2 s).map (mkM h0 B D hi z) := by
  intro n
  induction n with
  | zero => intro x2 s; rfl
  | succ n ih => intro x2 s; exact sGB_M_unjoin_2 h  ih
def G_M_unjoin (N : Nat) (s : mst) (p0 : Int32) : Option mst :=
    G_M_unjoin_2 N p0 N 0 s
theorem sg_M_unjoin {h0 : Nat → pm_C} {B : Nat} {D : Nat → pd} {hi z N : Nat} (h : FX D hi) {p0 : Int32} {s : mst} : F_M_unjoin N (mkM h0 B D hi z s) (B + 85) p0 = (G_M_unjoin N s p0).map (mkM h0 B D hi z) := by
  simp only [F_M_unjoin, G_M_unjoin, aim_106 h, rdm_85_26 h, sim_106 h, sG_M_unjoin_31 h, sG_M_unjoin_2 h, rcm_85 h, Option.bind_some, Option.map_bind, Option.bind_map, Option.map_some, Option.map_none, Option.bind_none, apply_ite (Option.map _), if_true, Function.comp_def, cvM]
  all_goals rfl
def G_M_lay_374 (N : Nat)   (s : mst) : Option mst :=
    some s
theorem sG_M_lay_374 {h0 : Nat → pm_C} {B : Nat} {D : Nat → pd} {hi z N : Nat} (h : FX D hi)    {s : mst} : F_M_lay_374 N   (mkM h0 B D hi z s) = (G_M_lay_374 N   s).map (mkM h0 B D hi z) := by
  simp only [F_M_lay_374, G_M_lay_374, aim_100 h, aim_101 h, aim_102 h, aim_103 h, aim_104 h, aim_108 h, aim_93 h, aim_94 h, aim_95 h, aim_96 h, aim_97 h, aim_98 h, aim_99 h, rdm_85_12 h, rdm_85_13 h, rdm_85_14 h, rdm_85_15 h, rdm_85_16 h, rdm_85_17 h, rdm_85_18 h, rdm_85_20 h, rdm_85_21 h, rdm_85_22 h, rdm_85_23 h, rdm_85_24 h, rdm_85_26 h, rdm_85_27 h, rdm_85_28 h, sg_M_isSo h, sg_M_isUndone h, sg_M_unhang h, sg_M_unjoin h, sim_106 h, sim_107 h, sim_108 h, wrm_85_29 h, wrm_85_30 h, wrm_85_31 h, wrm_85_34 h, Option.bind_some, Option.map_bind, Option.bind_map, Option.map_some, Option.map_none, Option.bind_none, apply_ite (Option.map _), if_true, Function.comp_def, cvM]
  all_goals rfl
def G_M_lay_368 (N : Nat) (rec227 : Int32 → mst → Option mst) (x1 : Int32) (x5 : Int32) (s : mst) : Option mst :=
    rec227 (x5 + 1) s
theorem sG_M_lay_368 {h0 : Nat → pm_C} {B : Nat} {D : Nat → pd} {hi z N : Nat} (h : FX D hi) {rec227 : Int32 → pm_S → Option pm_S} {grec227 : Int32 → mst → Option mst} (hrec227 : ∀ (y1 : Int32) (s : mst), rec227 y1 (mkM h0 B D hi z s) = (grec227 y1 s).map (mkM h0 B D hi z)) {x1 : Int32} {x5 : Int32} {s : mst} : F_M_lay_368 N rec227 (B + 85) x1 x5 (mkM h0 B D hi z s) = (G_M_lay_368 N grec227 x1 x5 s).map (mkM h0 B D hi z) := by
  simp only [F_M_lay_368, G_M_lay_368, aim_100 h, aim_101 h, aim_102 h, aim_103 h, aim_104 h, aim_108 h, aim_93 h, aim_94 h, aim_95 h, aim_96 h, aim_97 h, aim_98 h, aim_99 h, rdm_85_12 h, rdm_85_13 h, rdm_85_14 h, rdm_85_15 h, rdm_85_16 h, rdm_85_17 h, rdm_85_18 h, rdm_85_20 h, rdm_85_21 h, rdm_85_22 h, rdm_85_23 h, rdm_85_24 h, rdm_85_26 h, rdm_85_27 h, rdm_85_28 h, sg_M_isSo h, sg_M_isUndone h, sg_M_unhang h, sg_M_unjoin h, sim_106 h, sim_107 h, sim_108 h, wrm_85_29 h, wrm_85_30 h, wrm_85_31 h, wrm_85_34 h, sG_M_lay_374 h, hrec227, Option.bind_some, Option.map_bind, Option.bind_map, Option.map_some, Option.map_none, Option.bind_none, apply_ite (Option.map _), if_true, Function.comp_def, cvM]
  all_goals rfl
def G_M_lay_361 (N : Nat) (rec227 : Int32 → mst → Option mst) (rec272 : Int32 → mst → Option mst) (x1 : Int32) (x5 : Int32) (x6 : Int32) (x7 : Int32) (t0 : Int32) (t1 : Int32) (s : mst) : Option mst :=
    (stA 0 s 108 42 t1 t0).bind fun s13 =>
    rec272 (x7 + 1) s13
theorem sG_M_lay_361 {h0 : Nat → pm_C} {B : Nat} {D : Nat → pd} {hi z N : Nat} (h : FX D hi) {rec227 : Int32 → pm_S → Option pm_S} {grec227 : Int32 → mst → Option mst} {rec272 : Int32 → pm_S → Option pm_S} {grec272 : Int32 → mst → Option mst} (hrec227 : ∀ (y1 : Int32) (s : mst), rec227 y1 (mkM h0 B D hi z s) = (grec227 y1 s).map (mkM h0 B D hi z)) (hrec272 : ∀ (y1 : Int32) (s : mst), rec272 y1 (mkM h0 B D hi z s) = (grec272 y1 s).map (mkM h0 B D hi z)) {x1 : Int32} {x5 : Int32} {x6 : Int32} {x7 : Int32} {t0 : Int32} {t1 : Int32} {s : mst} : F_M_lay_361_2 N rec227 rec272 (B + 85) x1 x5 x6 x7 t0 t1 (B + 108) (mkM h0 B D hi z s) = (G_M_lay_361 N grec227 grec272 x1 x5 x6 x7 t0 t1 s).map (mkM h0 B D hi z) := by
  simp only [F_M_lay_361_2, G_M_lay_361, aim_100 h, aim_101 h, aim_102 h, aim_103 h, aim_104 h, aim_108 h, aim_93 h, aim_94 h, aim_95 h, aim_96 h, aim_97 h, aim_98 h, aim_99 h, rdm_85_12 h, rdm_85_13 h, rdm_85_14 h, rdm_85_15 h, rdm_85_16 h, rdm_85_17 h, rdm_85_18 h, rdm_85_20 h, rdm_85_21 h, rdm_85_22 h, rdm_85_23 h, rdm_85_24 h, rdm_85_26 h, rdm_85_27 h, rdm_85_28 h, sg_M_isSo h, sg_M_isUndone h, sg_M_unhang h, sg_M_unjoin h, sim_106 h, sim_107 h, sim_108 h, wrm_85_29 h, wrm_85_30 h, wrm_85_31 h, wrm_85_34 h, sG_M_lay_374 h, sG_M_lay_368 h hrec227, hrec227, hrec272, Option.bind_some, Option.map_bind, Option.bind_map, Option.map_some, Option.map_none, Option.bind_none, apply_ite (Option.map _), if_true, Function.comp_def, cvM]
  all_goals rfl
def GB_M_lay_272 (N : Nat) (rec227 : Int32 → mst → Option mst) (rec272 : Int32 → mst → Option mst) (x1 : Int32) (x5 : Int32) (x6 : Int32) (x7 : Int32) (s : mst) : Option mst :=
    if 6 ≤ x7 then
    G_M_lay_368 N rec227 x1 x5 s
    else
    ((rdA s 102 60 x6).bind fun v9 =>
    (rdA s 108 42 ((6 * v9) + x7)).bind fun v10 =>
    (rdA s 103 60 x6).bind fun v11 =>
    if v10 = v11 then
    ((rdA s 104 60 x6).bind fun v12 =>
    G_M_lay_361 N rec227 rec272 x1 x5 x6 x7 v12 ((6 * v9) + x7) s)
    else
    ((rdA s 108 42 ((6 * v9) + x7)).bind fun v14 =>
    (rdA s 104 60 x6).bind fun v15 =>
    if v14 = v15 then
    ((rdA s 103 60 x6).bind fun v16 =>
    G_M_lay_361 N rec227 rec272 x1 x5 x6 x7 v16 ((6 * v9) + x7) s)
    else
    ((rdA s 108 42 ((6 * v9) + x7)).bind fun v17 =>
    G_M_lay_361 N rec227 rec272 x1 x5 x6 x7 v17 ((6 * v9) + x7) s)))
theorem sGB_M_lay_272 {h0 : Nat → pm_C} {B : Nat} {D : Nat → pd} {hi z N : Nat} (h : FX D hi) {rec227 : Int32 → pm_S → Option pm_S} {grec227 : Int32 → mst → Option mst} {rec272 : Int32 → pm_S → Option pm_S} {grec272 : Int32 → mst → Option mst} (hrec227 : ∀ (y1 : Int32) (s : mst), rec227 y1 (mkM h0 B D hi z s) = (grec227 y1 s).map (mkM h0 B D hi z)) (hrec272 : ∀ (y1 : Int32) (s : mst), rec272 y1 (mkM h0 B D hi z s) = (grec272 y1 s).map (mkM h0 B D hi z)) {x1 : Int32} {x5 : Int32} {x6 : Int32} {x7 : Int32} {s : mst} : B_M_lay_272 N rec227 rec272 (B + 85) x1 x5 x6 x7 (mkM h0 B D hi z s) = (GB_M_lay_272 N grec227 grec272 x1 x5 x6 x7 s).map (mkM h0 B D hi z) := by
  simp only [B_M_lay_272, GB_M_lay_272, aim_100 h, aim_101 h, aim_102 h, aim_103 h, aim_104 h, aim_108 h, aim_93 h, aim_94 h, aim_95 h, aim_96 h, aim_97 h, aim_98 h, aim_99 h, rdm_85_12 h, rdm_85_13 h, rdm_85_14 h, rdm_85_15 h, rdm_85_16 h, rdm_85_17 h, rdm_85_18 h, rdm_85_20 h, rdm_85_21 h, rdm_85_22 h, rdm_85_23 h, rdm_85_24 h, rdm_85_26 h, rdm_85_27 h, rdm_85_28 h, sg_M_isSo h, sg_M_isUndone h, sg_M_unhang h, sg_M_unjoin h, sim_106 h, sim_107 h, sim_108 h, wrm_85_29 h, wrm_85_30 h, wrm_85_31 h, wrm_85_34 h, sG_M_lay_374 h, sG_M_lay_368 h hrec227, sG_M_lay_361 h hrec227 hrec272, hrec227, hrec272, Option.bind_some, Option.map_bind, Option.bind_map, Option.map_some, Option.map_none, Option.bind_none, apply_ite (Option.map _), if_true, Function.comp_def, cvM]
  all_goals rfl
def G_M_lay_272 (N : Nat) (rec227 : Int32 → mst → Option mst) (x1 : Int32) (x5 : Int32) (x6 : Int32) : Nat → Int32 → mst → Option mst
  | 0 => fun _ _ => none
  | n + 1 => fun x7 s => GB_M_lay_272 N rec227 (G_M_lay_272 N rec227 x1 x5 x6 n) x1 x5 x6 x7 s
theorem sG_M_lay_272 {h0 : Nat → pm_C} {B : Nat} {D : Nat → pd} {hi z N : Nat} (h : FX D hi) {rec227 : Int32 → pm_S → Option pm_S} {grec227 : Int32 → mst → Option mst} (hrec227 : ∀ (y1 : Int32) (s : mst), rec227 y1 (mkM h0 B D hi z s) = (grec227 y1 s).map (mkM h0 B D hi z)) {x1 : Int32} {x5 : Int32} {x6 : Int32} : ∀ (n : Nat) (x7 : Int32) (s : mst), F_M_lay_272 N rec227 (B + 85) x1 x5 x6 n x7 (mkM h0 B D hi z s) = (G_M_lay_272 N grec227 x1 x5 x6 n x7 s).map (mkM h0 B D hi z) := by
  intro n
  induction n with
  | zero => intro x7 s; rfl
  | succ n ih => intro x7 s; exact sGB_M_lay_272 h hrec227 ih
def GB_M_lay_227 (N : Nat)  (rec227 : Int32 → mst → Option mst) (x1 : Int32) (x5 : Int32) (s : mst) : Option mst :=
    (rdA s 100 7 x1).bind fun v5 =>
    if v5 ≤ x5 then
    G_M_lay_374 N s
    else
    ((G_M_isSo N s x5).bind fun r7 =>
    if r7.1 = 0 then
    G_M_lay_368 N rec227 x1 x5 r7.2
    else
    ((rdA r7.2 101 60 ((10 * x1) + x5)).bind fun v8 =>
    if v8 = 0 then
    G_M_lay_272 N rec227 x1 x5 ((10 * x1) + x5) N 0 r7.2
    else
    G_M_lay_368 N rec227 x1 x5 r7.2))
theorem sGB_M_lay_227 {h0 : Nat → pm_C} {B : Nat} {D : Nat → pd} {hi z N : Nat} (h : FX D hi) {rec227 : Int32 → pm_S → Option pm_S} {grec227 : Int32 → mst → Option mst} (hrec227 : ∀ (y1 : Int32) (s : mst), rec227 y1 (mkM h0 B D hi z s) = (grec227 y1 s).map (mkM h0 B D hi z)) {x1 : Int32} {x5 : Int32} {s : mst} : B_M_lay_227 N rec227 (B + 85) x1 x5 (mkM h0 B D hi z s) = (GB_M_lay_227 N grec227 x1 x5 s).map (mkM h0 B D hi z) := by
  simp only [B_M_lay_227, GB_M_lay_227, aim_100 h, aim_101 h, aim_102 h, aim_103 h, aim_104 h, aim_108 h, aim_93 h, aim_94 h, aim_95 h, aim_96 h, aim_97 h, aim_98 h, aim_99 h, rdm_85_12 h, rdm_85_13 h, rdm_85_14 h, rdm_85_15 h, rdm_85_16 h, rdm_85_17 h, rdm_85_18 h, rdm_85_20 h, rdm_85_21 h, rdm_85_22 h, rdm_85_23 h, rdm_85_24 h, rdm_85_26 h, rdm_85_27 h, rdm_85_28 h, sg_M_isSo h, sg_M_isUndone h, sg_M_unhang h, sg_M_unjoin h, sim_106 h, sim_107 h, sim_108 h, wrm_85_29 h, wrm_85_30 h, wrm_85_31 h, wrm_85_34 h, sG_M_lay_374 h, sG_M_lay_368 h hrec227, sG_M_lay_272 h hrec227, hrec227, Option.bind_some, Option.map_bind, Option.bind_map, Option.map_some, Option.map_none, Option.bind_none, apply_ite (Option.map _), if_true, Function.comp_def, cvM]
  all_goals rfl
def G_M_lay_227 (N : Nat)  (x1 : Int32) : Nat → Int32 → mst → Option mst
  | 0 => fun _ _ => none
  | n + 1 => fun x5 s => GB_M_lay_227 N  (G_M_lay_227 N  x1 n) x1 x5 s
theorem sG_M_lay_227 {h0 : Nat → pm_C} {B : Nat} {D : Nat → pd} {hi z N : Nat} (h : FX D hi)   {x1 : Int32} : ∀ (n : Nat) (x5 : Int32) (s : mst), F_M_lay_227 N  (B + 85) x1 n x5 (mkM h0 B D hi z s) = (G_M_lay_227 N  x1 n x5 s).map (mkM h0 B D hi z) := by
  intro n
  induction n with
  | zero => intro x5 s; rfl
  | succ n ih => intro x5 s; exact sGB_M_lay_227 h  ih
def G_M_lay_224 (N : Nat)  (x1 : Int32) (s : mst) : Option mst :=
    G_M_lay_227 N x1 N 0 s
theorem sG_M_lay_224 {h0 : Nat → pm_C} {B : Nat} {D : Nat → pd} {hi z N : Nat} (h : FX D hi)   {x1 : Int32} {s : mst} : F_M_lay_224 N  (B + 85) x1 (mkM h0 B D hi z s) = (G_M_lay_224 N  x1 s).map (mkM h0 B D hi z) := by
  simp only [F_M_lay_224, G_M_lay_224, aim_100 h, aim_101 h, aim_102 h, aim_103 h, aim_104 h, aim_108 h, aim_93 h, aim_94 h, aim_95 h, aim_96 h, aim_97 h, aim_98 h, aim_99 h, rdm_85_12 h, rdm_85_13 h, rdm_85_14 h, rdm_85_15 h, rdm_85_16 h, rdm_85_17 h, rdm_85_18 h, rdm_85_20 h, rdm_85_21 h, rdm_85_22 h, rdm_85_23 h, rdm_85_24 h, rdm_85_26 h, rdm_85_27 h, rdm_85_28 h, sg_M_isSo h, sg_M_isUndone h, sg_M_unhang h, sg_M_unjoin h, sim_106 h, sim_107 h, sim_108 h, wrm_85_29 h, wrm_85_30 h, wrm_85_31 h, wrm_85_34 h, sG_M_lay_374 h, sG_M_lay_227 h, Option.bind_some, Option.map_bind, Option.bind_map, Option.map_some, Option.map_none, Option.bind_none, apply_ite (Option.map _), if_true, Function.comp_def, cvM]
  all_goals rfl
def G_M_lay_218 (N : Nat) (rec82 : Int32 → mst → Option mst) (x1 : Int32) (x4 : Int32) (x5 : Int32) (s : mst) : Option mst :=
    rec82 (x5 + 1) s
theorem sG_M_lay_218 {h0 : Nat → pm_C} {B : Nat} {D : Nat → pd} {hi z N : Nat} (h : FX D hi) {rec82 : Int32 → pm_S → Option pm_S} {grec82 : Int32 → mst → Option mst} (hrec82 : ∀ (y1 : Int32) (s : mst), rec82 y1 (mkM h0 B D hi z s) = (grec82 y1 s).map (mkM h0 B D hi z)) {x1 : Int32} {x4 : Int32} {x5 : Int32} {s : mst} : F_M_lay_218 N rec82 (B + 85) x1 x4 x5 (mkM h0 B D hi z s) = (G_M_lay_218 N grec82 x1 x4 x5 s).map (mkM h0 B D hi z) := by
  simp only [F_M_lay_218, G_M_lay_218, aim_100 h, aim_101 h, aim_102 h, aim_103 h, aim_104 h, aim_108 h, aim_93 h, aim_94 h, aim_95 h, aim_96 h, aim_97 h, aim_98 h, aim_99 h, rdm_85_12 h, rdm_85_13 h, rdm_85_14 h, rdm_85_15 h, rdm_85_16 h, rdm_85_17 h, rdm_85_18 h, rdm_85_20 h, rdm_85_21 h, rdm_85_22 h, rdm_85_23 h, rdm_85_24 h, rdm_85_26 h, rdm_85_27 h, rdm_85_28 h, sg_M_isSo h, sg_M_isUndone h, sg_M_unhang h, sg_M_unjoin h, sim_106 h, sim_107 h, sim_108 h, wrm_85_29 h, wrm_85_30 h, wrm_85_31 h, wrm_85_34 h, sG_M_lay_374 h, sG_M_lay_227 h, sG_M_lay_224 h, hrec82, Option.bind_some, Option.map_bind, Option.bind_map, Option.map_some, Option.map_none, Option.bind_none, apply_ite (Option.map _), if_true, Function.comp_def, cvM]
  all_goals rfl
def G_M_lay_115 (N : Nat) (rec82 : Int32 → mst → Option mst) (x1 : Int32) (x4 : Int32) (x5 : Int32) (s : mst) : Option mst :=
    (rdA s 95 420 ((60 * x1) + x5)).bind fun v18 =>
    (rdA s 96 420 ((60 * x1) + x5)).bind fun v19 =>
    (rdA s 94 420 ((60 * x1) + x5)).bind fun v20 =>
    if v20 = 1 then
    ((rdA s 97 420 ((60 * x1) + x5)).bind fun v21 =>
    (G_M_unhang N s v21).bind fun s22 =>
    (rdA s22 97 420 ((60 * x1) + x5)).bind fun v23 =>
    (stA 0 s22 107 42 ((6 * v18) + v19) v23).bind fun s24 =>
    G_M_lay_218 N rec82 x1 x4 x5 s24)
    else
    ((rdA s 97 420 ((60 * x1) + x5)).bind fun v25 =>
    (rdA s 98 420 ((60 * x1) + x5)).bind fun v26 =>
    (G_M_unjoin N s ((6 * v25) + v26)).bind fun s27 =>
    (stA 0 s27 106 42 ((6 * v18) + v19) ((6 * v25) + v26)).bind fun s28 =>
    G_M_lay_218 N rec82 x1 x4 x5 s28)
theorem sG_M_lay_115 {h0 : Nat → pm_C} {B : Nat} {D : Nat → pd} {hi z N : Nat} (h : FX D hi) {rec82 : Int32 → pm_S → Option pm_S} {grec82 : Int32 → mst → Option mst} (hrec82 : ∀ (y1 : Int32) (s : mst), rec82 y1 (mkM h0 B D hi z s) = (grec82 y1 s).map (mkM h0 B D hi z)) {x1 : Int32} {x4 : Int32} {x5 : Int32} {s : mst} : F_M_lay_115 N rec82 (B + 85) x1 x4 x5 (mkM h0 B D hi z s) = (G_M_lay_115 N grec82 x1 x4 x5 s).map (mkM h0 B D hi z) := by
  simp only [F_M_lay_115, G_M_lay_115, aim_100 h, aim_101 h, aim_102 h, aim_103 h, aim_104 h, aim_108 h, aim_93 h, aim_94 h, aim_95 h, aim_96 h, aim_97 h, aim_98 h, aim_99 h, rdm_85_12 h, rdm_85_13 h, rdm_85_14 h, rdm_85_15 h, rdm_85_16 h, rdm_85_17 h, rdm_85_18 h, rdm_85_20 h, rdm_85_21 h, rdm_85_22 h, rdm_85_23 h, rdm_85_24 h, rdm_85_26 h, rdm_85_27 h, rdm_85_28 h, sg_M_isSo h, sg_M_isUndone h, sg_M_unhang h, sg_M_unjoin h, sim_106 h, sim_107 h, sim_108 h, wrm_85_29 h, wrm_85_30 h, wrm_85_31 h, wrm_85_34 h, sG_M_lay_374 h, sG_M_lay_227 h, sG_M_lay_224 h, sG_M_lay_218 h hrec82, hrec82, Option.bind_some, Option.map_bind, Option.bind_map, Option.map_some, Option.map_none, Option.bind_none, apply_ite (Option.map _), if_true, Function.comp_def, cvM]
  all_goals rfl
def GB_M_lay_82 (N : Nat)  (rec82 : Int32 → mst → Option mst) (x1 : Int32) (x4 : Int32) (x5 : Int32) (s : mst) : Option mst :=
    (rdA s 93 7 x1).bind fun v4 =>
    if v4 ≤ x5 then
    G_M_lay_224 N x1 s
    else
    (if x5 < x4 then
    G_M_lay_115 N rec82 x1 x4 x5 s
    else
    ((G_M_isUndone N s (x5 - x4)).bind fun r30 =>
    if r30.1 = 0 then
    G_M_lay_115 N rec82 x1 x4 x5 r30.2
    else
    G_M_lay_218 N rec82 x1 x4 x5 r30.2))
theorem sGB_M_lay_82 {h0 : Nat → pm_C} {B : Nat} {D : Nat → pd} {hi z N : Nat} (h : FX D hi) {rec82 : Int32 → pm_S → Option pm_S} {grec82 : Int32 → mst → Option mst} (hrec82 : ∀ (y1 : Int32) (s : mst), rec82 y1 (mkM h0 B D hi z s) = (grec82 y1 s).map (mkM h0 B D hi z)) {x1 : Int32} {x4 : Int32} {x5 : Int32} {s : mst} : B_M_lay_82 N rec82 (B + 85) x1 x4 x5 (mkM h0 B D hi z s) = (GB_M_lay_82 N grec82 x1 x4 x5 s).map (mkM h0 B D hi z) := by
  simp only [B_M_lay_82, GB_M_lay_82, aim_100 h, aim_101 h, aim_102 h, aim_103 h, aim_104 h, aim_108 h, aim_93 h, aim_94 h, aim_95 h, aim_96 h, aim_97 h, aim_98 h, aim_99 h, rdm_85_12 h, rdm_85_13 h, rdm_85_14 h, rdm_85_15 h, rdm_85_16 h, rdm_85_17 h, rdm_85_18 h, rdm_85_20 h, rdm_85_21 h, rdm_85_22 h, rdm_85_23 h, rdm_85_24 h, rdm_85_26 h, rdm_85_27 h, rdm_85_28 h, sg_M_isSo h, sg_M_isUndone h, sg_M_unhang h, sg_M_unjoin h, sim_106 h, sim_107 h, sim_108 h, wrm_85_29 h, wrm_85_30 h, wrm_85_31 h, wrm_85_34 h, sG_M_lay_374 h, sG_M_lay_227 h, sG_M_lay_224 h, sG_M_lay_218 h hrec82, sG_M_lay_115 h hrec82, hrec82, Option.bind_some, Option.map_bind, Option.bind_map, Option.map_some, Option.map_none, Option.bind_none, apply_ite (Option.map _), if_true, Function.comp_def, cvM]
  all_goals rfl
def G_M_lay_82 (N : Nat)  (x1 : Int32) (x4 : Int32) : Nat → Int32 → mst → Option mst
  | 0 => fun _ _ => none
  | n + 1 => fun x5 s => GB_M_lay_82 N  (G_M_lay_82 N  x1 x4 n) x1 x4 x5 s
theorem sG_M_lay_82 {h0 : Nat → pm_C} {B : Nat} {D : Nat → pd} {hi z N : Nat} (h : FX D hi)   {x1 : Int32} {x4 : Int32} : ∀ (n : Nat) (x5 : Int32) (s : mst), F_M_lay_82 N  (B + 85) x1 x4 n x5 (mkM h0 B D hi z s) = (G_M_lay_82 N  x1 x4 n x5 s).map (mkM h0 B D hi z) := by
  intro n
  induction n with
  | zero => intro x5 s; rfl
  | succ n ih => intro x5 s; exact sGB_M_lay_82 h  ih
def G_M_lay_64 (N : Nat)  (x1 : Int32) (s : mst) : Option mst :=
    (rdA s 93 7 x1).bind fun v2 =>
    (rdA s 99 7 x1).bind fun v3 =>
    G_M_lay_82 N x1 (v2 - v3) N 0 s
theorem sG_M_lay_64 {h0 : Nat → pm_C} {B : Nat} {D : Nat → pd} {hi z N : Nat} (h : FX D hi)   {x1 : Int32} {s : mst} : F_M_lay_64 N  (B + 85) x1 (mkM h0 B D hi z s) = (G_M_lay_64 N  x1 s).map (mkM h0 B D hi z) := by
  simp only [F_M_lay_64, G_M_lay_64, aim_100 h, aim_101 h, aim_102 h, aim_103 h, aim_104 h, aim_108 h, aim_93 h, aim_94 h, aim_95 h, aim_96 h, aim_97 h, aim_98 h, aim_99 h, rdm_85_12 h, rdm_85_13 h, rdm_85_14 h, rdm_85_15 h, rdm_85_16 h, rdm_85_17 h, rdm_85_18 h, rdm_85_20 h, rdm_85_21 h, rdm_85_22 h, rdm_85_23 h, rdm_85_24 h, rdm_85_26 h, rdm_85_27 h, rdm_85_28 h, sg_M_isSo h, sg_M_isUndone h, sg_M_unhang h, sg_M_unjoin h, sim_106 h, sim_107 h, sim_108 h, wrm_85_29 h, wrm_85_30 h, wrm_85_31 h, wrm_85_34 h, sG_M_lay_374 h, sG_M_lay_227 h, sG_M_lay_224 h, sG_M_lay_82 h, Option.bind_some, Option.map_bind, Option.bind_map, Option.map_some, Option.map_none, Option.bind_none, apply_ite (Option.map _), if_true, Function.comp_def, cvM]
  all_goals rfl
def GB_M_lay_23 (N : Nat)  (rec23 : Int32 → mst → Option mst) (x1 : Int32) (x4 : Int32) (s : mst) : Option mst :=
    if 42 ≤ x4 then
    G_M_lay_64 N x1 s
    else
    ((stA 0 s 106 42 x4 (-1)).bind fun s31 =>
    (stA 0 s31 107 42 x4 (-1)).bind fun s32 =>
    (stA 0 s32 108 42 x4 (x4 - x4 / 6 * 6)).bind fun s33 =>
    rec23 (x4 + 1) s33)
theorem sGB_M_lay_23 {h0 : Nat → pm_C} {B : Nat} {D : Nat → pd} {hi z N : Nat} (h : FX D hi) {rec23 : Int32 → pm_S → Option pm_S} {grec23 : Int32 → mst → Option mst} (hrec23 : ∀ (y1 : Int32) (s : mst), rec23 y1 (mkM h0 B D hi z s) = (grec23 y1 s).map (mkM h0 B D hi z)) {x1 : Int32} {x4 : Int32} {s : mst} : B_M_lay_23 N rec23 (B + 85) x1 x4 (mkM h0 B D hi z s) = (GB_M_lay_23 N grec23 x1 x4 s).map (mkM h0 B D hi z) := by
  simp only [B_M_lay_23, GB_M_lay_23, aim_100 h, aim_101 h, aim_102 h, aim_103 h, aim_104 h, aim_108 h, aim_93 h, aim_94 h, aim_95 h, aim_96 h, aim_97 h, aim_98 h, aim_99 h, rdm_85_12 h, rdm_85_13 h, rdm_85_14 h, rdm_85_15 h, rdm_85_16 h, rdm_85_17 h, rdm_85_18 h, rdm_85_20 h, rdm_85_21 h, rdm_85_22 h, rdm_85_23 h, rdm_85_24 h, rdm_85_26 h, rdm_85_27 h, rdm_85_28 h, sg_M_isSo h, sg_M_isUndone h, sg_M_unhang h, sg_M_unjoin h, sim_106 h, sim_107 h, sim_108 h, wrm_85_29 h, wrm_85_30 h, wrm_85_31 h, wrm_85_34 h, sG_M_lay_374 h, sG_M_lay_227 h, sG_M_lay_224 h, sG_M_lay_82 h, sG_M_lay_64 h, hrec23, Option.bind_some, Option.map_bind, Option.bind_map, Option.map_some, Option.map_none, Option.bind_none, apply_ite (Option.map _), if_true, Function.comp_def, cvM]
  all_goals rfl
def G_M_lay_23 (N : Nat)  (x1 : Int32) : Nat → Int32 → mst → Option mst
  | 0 => fun _ _ => none
  | n + 1 => fun x4 s => GB_M_lay_23 N  (G_M_lay_23 N  x1 n) x1 x4 s
theorem sG_M_lay_23 {h0 : Nat → pm_C} {B : Nat} {D : Nat → pd} {hi z N : Nat} (h : FX D hi)   {x1 : Int32} : ∀ (n : Nat) (x4 : Int32) (s : mst), F_M_lay_23 N  (B + 85) x1 n x4 (mkM h0 B D hi z s) = (G_M_lay_23 N  x1 n x4 s).map (mkM h0 B D hi z) := by
  intro n
  induction n with
  | zero => intro x4 s; rfl
  | succ n ih => intro x4 s; exact sGB_M_lay_23 h  ih
def G_M_lay (N : Nat) (s : mst) (p0 : Int32) (p1 : Int32) (p2 : Int32) : Option mst :=
    (wrZ (wrI (wrI s 85 29 p0) 85 30 p1) 85 34 p2).bind fun s1 =>
    G_M_lay_23 N p0 N 0 (wrI s1 85 31 (-1))
theorem sg_M_lay {h0 : Nat → pm_C} {B : Nat} {D : Nat → pd} {hi z N : Nat} (h : FX D hi) {p0 : Int32} {p1 : Int32} {p2 : Int32} {s : mst} : F_M_lay N (mkM h0 B D hi z s) (B + 85) p0 p1 p2 = (G_M_lay N s p0 p1 p2).map (mkM h0 B D hi z) := by
  simp only [F_M_lay, G_M_lay, aim_100 h, aim_101 h, aim_102 h, aim_103 h, aim_104 h, aim_108 h, aim_93 h, aim_94 h, aim_95 h, aim_96 h, aim_97 h, aim_98 h, aim_99 h, rdm_85_12 h, rdm_85_13 h, rdm_85_14 h, rdm_85_15 h, rdm_85_16 h, rdm_85_17 h, rdm_85_18 h, rdm_85_20 h, rdm_85_21 h, rdm_85_22 h, rdm_85_23 h, rdm_85_24 h, rdm_85_26 h, rdm_85_27 h, rdm_85_28 h, sg_M_isSo h, sg_M_isUndone h, sg_M_unhang h, sg_M_unjoin h, sim_106 h, sim_107 h, sim_108 h, wrm_85_29 h, wrm_85_30 h, wrm_85_31 h, wrm_85_34 h, sG_M_lay_374 h, sG_M_lay_227 h, sG_M_lay_224 h, sG_M_lay_82 h, sG_M_lay_64 h, sG_M_lay_23 h, rcm_85 h, Option.bind_some, Option.map_bind, Option.bind_map, Option.map_some, Option.map_none, Option.bind_none, apply_ite (Option.map _), if_true, Function.comp_def, cvM]
  all_goals rfl
def G_M_node (N : Nat) (s : mst) (p0 : Int32) (p1 : Int32) (p2 : Int32) : Option (Int32 × mst) :=
    some ((((6 * p0) + p1) * 11) + p2, s)
theorem sg_M_node {h0 : Nat → pm_C} {B : Nat} {D : Nat → pd} {hi z N : Nat} (h : FX D hi) {p0 : Int32} {p1 : Int32} {p2 : Int32} {s : mst} : F_M_node N (mkM h0 B D hi z s)  p0 p1 p2 = (G_M_node N s p0 p1 p2).map (cvM h0 B D hi z) := by
  simp only [F_M_node, G_M_node, Option.bind_some, Option.map_bind, Option.bind_map, Option.map_some, Option.map_none, Option.bind_none, apply_ite (Option.map _), if_true, Function.comp_def, cvM]
  all_goals rfl
def G_M_nearNode (N : Nat) (s : mst) (p0 : Int32) (p1 : Int32) : Option (Int32 × mst) :=
    (G_M_node N s p0 p1 0).bind fun r2 =>
    some (r2.1, r2.2)
theorem sg_M_nearNode {h0 : Nat → pm_C} {B : Nat} {D : Nat → pd} {hi z N : Nat} (h : FX D hi) {p0 : Int32} {p1 : Int32} {s : mst} : F_M_nearNode N (mkM h0 B D hi z s) (B + 85) p0 p1 = (G_M_nearNode N s p0 p1).map (cvM h0 B D hi z) := by
  simp only [F_M_nearNode, G_M_nearNode, sg_M_node h, rcm_85 h, Option.bind_some, Option.map_bind, Option.bind_map, Option.map_some, Option.map_none, Option.bind_none, apply_ite (Option.map _), if_true, Function.comp_def, cvM]
  all_goals rfl
def G_M_cameAs_43 (N : Nat)   (s : mst) : Option (Int32 × mst) :=
    some ((-1), s)
theorem sG_M_cameAs_43 {h0 : Nat → pm_C} {B : Nat} {D : Nat → pd} {hi z N : Nat} (h : FX D hi)    {s : mst} : F_M_cameAs_43 N   (mkM h0 B D hi z s) = (G_M_cameAs_43 N   s).map (cvM h0 B D hi z) := by
  simp only [F_M_cameAs_43, G_M_cameAs_43, aim_108 h, aim_91 h, rdm_85_10 h, rdm_85_28 h, rdm_85_29 h, Option.bind_some, Option.map_bind, Option.bind_map, Option.map_some, Option.map_none, Option.bind_none, apply_ite (Option.map _), if_true, Function.comp_def, cvM]
  all_goals rfl
def G_M_cameAs_35 (N : Nat)  (x3 : Int32) (s : mst) : Option (Int32 × mst) :=
    some (x3, s)
theorem sG_M_cameAs_35 {h0 : Nat → pm_C} {B : Nat} {D : Nat → pd} {hi z N : Nat} (h : FX D hi)   {x3 : Int32} {s : mst} : F_M_cameAs_35 N  x3 (mkM h0 B D hi z s) = (G_M_cameAs_35 N  x3 s).map (cvM h0 B D hi z) := by
  simp only [F_M_cameAs_35, G_M_cameAs_35, aim_108 h, aim_91 h, rdm_85_10 h, rdm_85_28 h, rdm_85_29 h, sG_M_cameAs_43 h, Option.bind_some, Option.map_bind, Option.bind_map, Option.map_some, Option.map_none, Option.bind_none, apply_ite (Option.map _), if_true, Function.comp_def, cvM]
  all_goals rfl
def GB_M_cameAs_2 (N : Nat)  (rec2 : Int32 → mst → Option (Int32 × mst)) (x1 : Int32) (x2 : Int32) (x3 : Int32) (s : mst) : Option (Int32 × mst) :=
    (rdA s 91 49 ((7 * (s.1 85 29)) + x1)).bind fun v1 =>
    if v1 ≤ x3 then
    G_M_cameAs_43 N s
    else
    ((rdA s 108 42 ((6 * x1) + x3)).bind fun v2 =>
    if v2 = x2 then
    G_M_cameAs_35 N x3 s
    else
    rec2 (x3 + 1) s)
theorem sGB_M_cameAs_2 {h0 : Nat → pm_C} {B : Nat} {D : Nat → pd} {hi z N : Nat} (h : FX D hi) {rec2 : Int32 → pm_S → Option (Int32 × pm_S)} {grec2 : Int32 → mst → Option (Int32 × mst)} (hrec2 : ∀ (y1 : Int32) (s : mst), rec2 y1 (mkM h0 B D hi z s) = (grec2 y1 s).map (cvM h0 B D hi z)) {x1 : Int32} {x2 : Int32} {x3 : Int32} {s : mst} : B_M_cameAs_2 N rec2 (B + 85) x1 x2 x3 (mkM h0 B D hi z s) = (GB_M_cameAs_2 N grec2 x1 x2 x3 s).map (cvM h0 B D hi z) := by
  simp only [B_M_cameAs_2, GB_M_cameAs_2, aim_108 h, aim_91 h, rdm_85_10 h, rdm_85_28 h, rdm_85_29 h, sG_M_cameAs_43 h, sG_M_cameAs_35 h, hrec2, Option.bind_some, Option.map_bind, Option.bind_map, Option.map_some, Option.map_none, Option.bind_none, apply_ite (Option.map _), if_true, Function.comp_def, cvM]
  all_goals rfl
def G_M_cameAs_2 (N : Nat)  (x1 : Int32) (x2 : Int32) : Nat → Int32 → mst → Option (Int32 × mst)
  | 0 => fun _ _ => none
  | n + 1 => fun x3 s => GB_M_cameAs_2 N  (G_M_cameAs_2 N  x1 x2 n) x1 x2 x3 s
theorem sG_M_cameAs_2 {h0 : Nat → pm_C} {B : Nat} {D : Nat → pd} {hi z N : Nat} (h : FX D hi)   {x1 : Int32} {x2 : Int32} : ∀ (n : Nat) (x3 : Int32) (s : mst), F_M_cameAs_2 N  (B + 85) x1 x2 n x3 (mkM h0 B D hi z s) = (G_M_cameAs_2 N  x1 x2 n x3 s).map (cvM h0 B D hi z) := by
  intro n
  induction n with
  | zero => intro x3 s; rfl
  | succ n ih => intro x3 s; exact sGB_M_cameAs_2 h  ih
def G_M_cameAs (N : Nat) (s : mst) (p0 : Int32) (p1 : Int32) : Option (Int32 × mst) :=
    G_M_cameAs_2 N p0 p1 N 0 s
theorem sg_M_cameAs {h0 : Nat → pm_C} {B : Nat} {D : Nat → pd} {hi z N : Nat} (h : FX D hi) {p0 : Int32} {p1 : Int32} {s : mst} : F_M_cameAs N (mkM h0 B D hi z s) (B + 85) p0 p1 = (G_M_cameAs N s p0 p1).map (cvM h0 B D hi z) := by
  simp only [F_M_cameAs, G_M_cameAs, aim_108 h, aim_91 h, rdm_85_10 h, rdm_85_28 h, rdm_85_29 h, sG_M_cameAs_43 h, sG_M_cameAs_35 h, sG_M_cameAs_2 h, rcm_85 h, Option.bind_some, Option.map_bind, Option.bind_map, Option.map_some, Option.map_none, Option.bind_none, apply_ite (Option.map _), if_true, Function.comp_def, cvM]
  all_goals rfl
def G_M_longOf (N : Nat) (s : mst) (p0 : Int32) : Option (Int32 × mst) :=
    (rdA s 92 49 ((7 * (s.1 85 29)) + p0)).bind fun v1 =>
    some (v1, s)
theorem sg_M_longOf {h0 : Nat → pm_C} {B : Nat} {D : Nat → pd} {hi z N : Nat} (h : FX D hi) {p0 : Int32} {s : mst} : F_M_longOf N (mkM h0 B D hi z s) (B + 85) p0 = (G_M_longOf N s p0).map (cvM h0 B D hi z) := by
  simp only [F_M_longOf, G_M_longOf, aim_92 h, rdm_85_11 h, rdm_85_29 h, rcm_85 h, Option.bind_some, Option.map_bind, Option.bind_map, Option.map_some, Option.map_none, Option.bind_none, apply_ite (Option.map _), if_true, Function.comp_def, cvM]
  all_goals rfl
def G_M_breaksTo_129 (N : Nat)  (x4 : Int32) (s : mst) : Option (Int32 × mst) :=
    some (x4, s)
theorem sG_M_breaksTo_129 {h0 : Nat → pm_C} {B : Nat} {D : Nat → pd} {hi z N : Nat} (h : FX D hi)   {x4 : Int32} {s : mst} : F_M_breaksTo_129 N  x4 (mkM h0 B D hi z s) = (G_M_breaksTo_129 N  x4 s).map (cvM h0 B D hi z) := by
  simp only [F_M_breaksTo_129, G_M_breaksTo_129, aim_100 h, aim_101 h, aim_102 h, aim_103 h, aim_105 h, rdm_85_20 h, rdm_85_21 h, rdm_85_22 h, rdm_85_23 h, rdm_85_25 h, rdm_85_29 h, rdm_85_31 h, rdm_85_32 h, rdm_85_33 h, sg_M_isSo h, Option.bind_some, Option.map_bind, Option.bind_map, Option.map_some, Option.map_none, Option.bind_none, apply_ite (Option.map _), if_true, Function.comp_def, cvM]
  all_goals rfl
def G_M_breaksTo_120 (N : Nat) (rec34 : Int32 → Int32 → mst → Option (Int32 × mst)) (x1 : Int32) (x2 : Int32) (x3 : Int32) (x5 : Int32) (t0 : Int32) (t1 : Int32) (s : mst) : Option (Int32 × mst) :=
    rec34 (t1 + t0) (x5 + 1) s
theorem sG_M_breaksTo_120 {h0 : Nat → pm_C} {B : Nat} {D : Nat → pd} {hi z N : Nat} (h : FX D hi) {rec34 : Int32 → Int32 → pm_S → Option (Int32 × pm_S)} {grec34 : Int32 → Int32 → mst → Option (Int32 × mst)} (hrec34 : ∀ (y1 : Int32) (y2 : Int32) (s : mst), rec34 y1 y2 (mkM h0 B D hi z s) = (grec34 y1 y2 s).map (cvM h0 B D hi z)) {x1 : Int32} {x2 : Int32} {x3 : Int32} {x5 : Int32} {t0 : Int32} {t1 : Int32} {s : mst} : F_M_breaksTo_120 N rec34 (B + 85) x1 x2 x3 x5 t0 t1 (mkM h0 B D hi z s) = (G_M_breaksTo_120 N grec34 x1 x2 x3 x5 t0 t1 s).map (cvM h0 B D hi z) := by
  simp only [F_M_breaksTo_120, G_M_breaksTo_120, aim_100 h, aim_101 h, aim_102 h, aim_103 h, aim_105 h, rdm_85_20 h, rdm_85_21 h, rdm_85_22 h, rdm_85_23 h, rdm_85_25 h, rdm_85_29 h, rdm_85_31 h, rdm_85_32 h, rdm_85_33 h, sg_M_isSo h, sG_M_breaksTo_129 h, hrec34, Option.bind_some, Option.map_bind, Option.bind_map, Option.map_some, Option.map_none, Option.bind_none, apply_ite (Option.map _), if_true, Function.comp_def, cvM]
  all_goals rfl
def G_M_breaksTo_119 (N : Nat) (rec34 : Int32 → Int32 → mst → Option (Int32 × mst)) (x1 : Int32) (x2 : Int32) (x3 : Int32) (x5 : Int32) (t0 : Int32) (s : mst) : Option (Int32 × mst) :=
    G_M_breaksTo_120 N rec34 x1 x2 x3 x5 0 t0 s
theorem sG_M_breaksTo_119 {h0 : Nat → pm_C} {B : Nat} {D : Nat → pd} {hi z N : Nat} (h : FX D hi) {rec34 : Int32 → Int32 → pm_S → Option (Int32 × pm_S)} {grec34 : Int32 → Int32 → mst → Option (Int32 × mst)} (hrec34 : ∀ (y1 : Int32) (y2 : Int32) (s : mst), rec34 y1 y2 (mkM h0 B D hi z s) = (grec34 y1 y2 s).map (cvM h0 B D hi z)) {x1 : Int32} {x2 : Int32} {x3 : Int32} {x5 : Int32} {t0 : Int32} {s : mst} : F_M_breaksTo_119 N rec34 (B + 85) x1 x2 x3 x5 t0 (mkM h0 B D hi z s) = (G_M_breaksTo_119 N grec34 x1 x2 x3 x5 t0 s).map (cvM h0 B D hi z) := by
  simp only [F_M_breaksTo_119, G_M_breaksTo_119, aim_100 h, aim_101 h, aim_102 h, aim_103 h, aim_105 h, rdm_85_20 h, rdm_85_21 h, rdm_85_22 h, rdm_85_23 h, rdm_85_25 h, rdm_85_29 h, rdm_85_31 h, rdm_85_32 h, rdm_85_33 h, sg_M_isSo h, sG_M_breaksTo_129 h, sG_M_breaksTo_120 h hrec34, hrec34, Option.bind_some, Option.map_bind, Option.bind_map, Option.map_some, Option.map_none, Option.bind_none, apply_ite (Option.map _), if_true, Function.comp_def, cvM]
  all_goals rfl
def GB_M_breaksTo_34 (N : Nat)  (rec34 : Int32 → Int32 → mst → Option (Int32 × mst)) (x1 : Int32) (x2 : Int32) (x3 : Int32) (x4 : Int32) (x5 : Int32) (s : mst) : Option (Int32 × mst) :=
    (rdA s 100 7 (s.1 85 29)).bind fun v1 =>
    if v1 ≤ x5 then
    G_M_breaksTo_129 N x4 s
    else
    ((G_M_isSo N s x5).bind fun r3 =>
    if r3.1 = 0 then
    G_M_breaksTo_119 N rec34 x1 x2 x3 x5 x4 r3.2
    else
    ((rdA r3.2 101 60 ((10 * (s.1 85 29)) + x5)).bind fun v4 =>
    if v4 = 1 then
    ((rdA r3.2 102 60 ((10 * (s.1 85 29)) + x5)).bind fun v5 =>
    if v5 = x1 then
    ((rdA r3.2 103 60 ((10 * (s.1 85 29)) + x5)).bind fun v6 =>
    if v6 = x2 then
    ((rdA r3.2 105 60 ((10 * (s.1 85 29)) + x5)).bind fun v7 =>
    if x3 < v7 then
    G_M_breaksTo_119 N rec34 x1 x2 x3 x5 x4 r3.2
    else
    G_M_breaksTo_120 N rec34 x1 x2 x3 x5 1 x4 r3.2)
    else
    G_M_breaksTo_119 N rec34 x1 x2 x3 x5 x4 r3.2)
    else
    G_M_breaksTo_119 N rec34 x1 x2 x3 x5 x4 r3.2)
    else
    G_M_breaksTo_119 N rec34 x1 x2 x3 x5 x4 r3.2))
theorem sGB_M_breaksTo_34 {h0 : Nat → pm_C} {B : Nat} {D : Nat → pd} {hi z N : Nat} (h : FX D hi) {rec34 : Int32 → Int32 → pm_S → Option (Int32 × pm_S)} {grec34 : Int32 → Int32 → mst → Option (Int32 × mst)} (hrec34 : ∀ (y1 : Int32) (y2 : Int32) (s : mst), rec34 y1 y2 (mkM h0 B D hi z s) = (grec34 y1 y2 s).map (cvM h0 B D hi z)) {x1 : Int32} {x2 : Int32} {x3 : Int32} {x4 : Int32} {x5 : Int32} {s : mst} : B_M_breaksTo_34 N rec34 (B + 85) x1 x2 x3 x4 x5 (mkM h0 B D hi z s) = (GB_M_breaksTo_34 N grec34 x1 x2 x3 x4 x5 s).map (cvM h0 B D hi z) := by
  simp only [B_M_breaksTo_34, GB_M_breaksTo_34, aim_100 h, aim_101 h, aim_102 h, aim_103 h, aim_105 h, rdm_85_20 h, rdm_85_21 h, rdm_85_22 h, rdm_85_23 h, rdm_85_25 h, rdm_85_29 h, rdm_85_31 h, rdm_85_32 h, rdm_85_33 h, sg_M_isSo h, sG_M_breaksTo_129 h, sG_M_breaksTo_120 h hrec34, sG_M_breaksTo_119 h hrec34, hrec34, Option.bind_some, Option.map_bind, Option.bind_map, Option.map_some, Option.map_none, Option.bind_none, apply_ite (Option.map _), if_true, Function.comp_def, cvM]
  all_goals rfl
def G_M_breaksTo_34 (N : Nat)  (x1 : Int32) (x2 : Int32) (x3 : Int32) : Nat → Int32 → Int32 → mst → Option (Int32 × mst)
  | 0 => fun _ _ _ => none
  | n + 1 => fun x4 x5 s => GB_M_breaksTo_34 N  (G_M_breaksTo_34 N  x1 x2 x3 n) x1 x2 x3 x4 x5 s
theorem sG_M_breaksTo_34 {h0 : Nat → pm_C} {B : Nat} {D : Nat → pd} {hi z N : Nat} (h : FX D hi)   {x1 : Int32} {x2 : Int32} {x3 : Int32} : ∀ (n : Nat) (x4 : Int32) (x5 : Int32) (s : mst), F_M_breaksTo_34 N  (B + 85) x1 x2 x3 n x4 x5 (mkM h0 B D hi z s) = (G_M_breaksTo_34 N  x1 x2 x3 n x4 x5 s).map (cvM h0 B D hi z) := by
  intro n
  induction n with
  | zero => intro x4 x5 s; rfl
  | succ n ih => intro x4 x5 s; exact sGB_M_breaksTo_34 h  ih
def G_M_breaksTo_29 (N : Nat)  (x1 : Int32) (x2 : Int32) (x3 : Int32) (t0 : Int32) (s : mst) : Option (Int32 × mst) :=
    G_M_breaksTo_34 N x1 x2 x3 N t0 0 s
theorem sG_M_breaksTo_29 {h0 : Nat → pm_C} {B : Nat} {D : Nat → pd} {hi z N : Nat} (h : FX D hi)   {x1 : Int32} {x2 : Int32} {x3 : Int32} {t0 : Int32} {s : mst} : F_M_breaksTo_29 N  (B + 85) x1 x2 x3 t0 (mkM h0 B D hi z s) = (G_M_breaksTo_29 N  x1 x2 x3 t0 s).map (cvM h0 B D hi z) := by
  simp only [F_M_breaksTo_29, G_M_breaksTo_29, aim_100 h, aim_101 h, aim_102 h, aim_103 h, aim_105 h, rdm_85_20 h, rdm_85_21 h, rdm_85_22 h, rdm_85_23 h, rdm_85_25 h, rdm_85_29 h, rdm_85_31 h, rdm_85_32 h, rdm_85_33 h, sg_M_isSo h, sG_M_breaksTo_129 h, sG_M_breaksTo_34 h, Option.bind_some, Option.map_bind, Option.bind_map, Option.map_some, Option.map_none, Option.bind_none, apply_ite (Option.map _), if_true, Function.comp_def, cvM]
  all_goals rfl
def G_M_breaksTo_28 (N : Nat)  (x1 : Int32) (x2 : Int32) (x3 : Int32) (s : mst) : Option (Int32 × mst) :=
    G_M_breaksTo_29 N x1 x2 x3 0 s
theorem sG_M_breaksTo_28 {h0 : Nat → pm_C} {B : Nat} {D : Nat → pd} {hi z N : Nat} (h : FX D hi)   {x1 : Int32} {x2 : Int32} {x3 : Int32} {s : mst} : F_M_breaksTo_28 N  (B + 85) x1 x2 x3 (mkM h0 B D hi z s) = (G_M_breaksTo_28 N  x1 x2 x3 s).map (cvM h0 B D hi z) := by
  simp only [F_M_breaksTo_28, G_M_breaksTo_28, aim_100 h, aim_101 h, aim_102 h, aim_103 h, aim_105 h, rdm_85_20 h, rdm_85_21 h, rdm_85_22 h, rdm_85_23 h, rdm_85_25 h, rdm_85_29 h, rdm_85_31 h, rdm_85_32 h, rdm_85_33 h, sg_M_isSo h, sG_M_breaksTo_129 h, sG_M_breaksTo_34 h, sG_M_breaksTo_29 h, Option.bind_some, Option.map_bind, Option.bind_map, Option.map_some, Option.map_none, Option.bind_none, apply_ite (Option.map _), if_true, Function.comp_def, cvM]
  all_goals rfl
def G_M_breaksTo (N : Nat) (s : mst) (p0 : Int32) (p1 : Int32) (p2 : Int32) : Option (Int32 × mst) :=
    if (s.1 85 31) = p0 then
    (if (s.1 85 32) = p1 then
    (if p2 < (s.1 85 33) then
    G_M_breaksTo_28 N p0 p1 p2 s
    else
    G_M_breaksTo_29 N p0 p1 p2 1 s)
    else
    G_M_breaksTo_28 N p0 p1 p2 s)
    else
    G_M_breaksTo_28 N p0 p1 p2 s
theorem sg_M_breaksTo {h0 : Nat → pm_C} {B : Nat} {D : Nat → pd} {hi z N : Nat} (h : FX D hi) {p0 : Int32} {p1 : Int32} {p2 : Int32} {s : mst} : F_M_breaksTo N (mkM h0 B D hi z s) (B + 85) p0 p1 p2 = (G_M_breaksTo N s p0 p1 p2).map (cvM h0 B D hi z) := by
  simp only [F_M_breaksTo, G_M_breaksTo, aim_100 h, aim_101 h, aim_102 h, aim_103 h, aim_105 h, rdm_85_20 h, rdm_85_21 h, rdm_85_22 h, rdm_85_23 h, rdm_85_25 h, rdm_85_29 h, rdm_85_31 h, rdm_85_32 h, rdm_85_33 h, sg_M_isSo h, sG_M_breaksTo_129 h, sG_M_breaksTo_34 h, sG_M_breaksTo_29 h, sG_M_breaksTo_28 h, rcm_85 h, Option.bind_some, Option.map_bind, Option.bind_map, Option.map_some, Option.map_none, Option.bind_none, apply_ite (Option.map _), if_true, Function.comp_def, cvM]
  all_goals rfl
def G_M_farNode (N : Nat) (s : mst) (p0 : Int32) (p1 : Int32) : Option (Int32 × mst) :=
    (G_M_cameAs N s p0 p1).bind fun r2 =>
    (G_M_longOf N r2.2 p0).bind fun r4 =>
    (G_M_breaksTo N r4.2 p0 r2.1 r4.1).bind fun r6 =>
    (G_M_node N r6.2 p0 r2.1 r6.1).bind fun r8 =>
    some (r8.1, r8.2)
theorem sg_M_farNode {h0 : Nat → pm_C} {B : Nat} {D : Nat → pd} {hi z N : Nat} (h : FX D hi) {p0 : Int32} {p1 : Int32} {s : mst} : F_M_farNode N (mkM h0 B D hi z s) (B + 85) p0 p1 = (G_M_farNode N s p0 p1).map (cvM h0 B D hi z) := by
  simp only [F_M_farNode, G_M_farNode, sg_M_breaksTo h, sg_M_cameAs h, sg_M_longOf h, sg_M_node h, rcm_85 h, Option.bind_some, Option.map_bind, Option.bind_map, Option.map_some, Option.map_none, Option.bind_none, apply_ite (Option.map _), if_true, Function.comp_def, cvM]
  all_goals rfl
def G_M_nodeAt_19 (N : Nat)  (t0 : Int32) (s : mst) : Option (Int32 × mst) :=
    some (t0, s)
theorem sG_M_nodeAt_19 {h0 : Nat → pm_C} {B : Nat} {D : Nat → pd} {hi z N : Nat} (h : FX D hi)   {t0 : Int32} {s : mst} : F_M_nodeAt_19 N  t0 (mkM h0 B D hi z s) = (G_M_nodeAt_19 N  t0 s).map (cvM h0 B D hi z) := by
  simp only [F_M_nodeAt_19, G_M_nodeAt_19, sg_M_farNode h, sg_M_nearNode h, Option.bind_some, Option.map_bind, Option.bind_map, Option.map_some, Option.map_none, Option.bind_none, apply_ite (Option.map _), if_true, Function.comp_def, cvM]
  all_goals rfl
def G_M_nodeAt (N : Nat) (s : mst) (p0 : Int32) (p1 : Int32) (p2 : Int32) : Option (Int32 × mst) :=
    if p2 = 0 then
    ((G_M_nearNode N s p0 p1).bind fun r2 =>
    G_M_nodeAt_19 N r2.1 r2.2)
    else
    ((G_M_farNode N s p0 p1).bind fun r4 =>
    G_M_nodeAt_19 N r4.1 r4.2)
theorem sg_M_nodeAt {h0 : Nat → pm_C} {B : Nat} {D : Nat → pd} {hi z N : Nat} (h : FX D hi) {p0 : Int32} {p1 : Int32} {p2 : Int32} {s : mst} : F_M_nodeAt N (mkM h0 B D hi z s) (B + 85) p0 p1 p2 = (G_M_nodeAt N s p0 p1 p2).map (cvM h0 B D hi z) := by
  simp only [F_M_nodeAt, G_M_nodeAt, sg_M_farNode h, sg_M_nearNode h, sG_M_nodeAt_19 h, rcm_85 h, Option.bind_some, Option.map_bind, Option.bind_map, Option.map_some, Option.map_none, Option.bind_none, apply_ite (Option.map _), if_true, Function.comp_def, cvM]
  all_goals rfl
def G_M_links_39 (N : Nat)  (x3 : Int32) (s : mst) : Option (Int32 × mst) :=
    if x3 = 0 ∨ x3 = 1 then some (x3, s) else none
theorem sG_M_links_39 {h0 : Nat → pm_C} {B : Nat} {D : Nat → pd} {hi z N : Nat} (h : FX D hi)   {x3 : Int32} {s : mst} : F_M_links_39 N  x3 (mkM h0 B D hi z s) = (G_M_links_39 N  x3 s).map (cvM h0 B D hi z) := by
  simp only [F_M_links_39, G_M_links_39, aim_109 h, rdm_85_35 h, sim_109 h, Option.bind_some, Option.map_bind, Option.bind_map, Option.map_some, Option.map_none, Option.bind_none, apply_ite (Option.map _), if_true, Function.comp_def, cvM]
  all_goals rfl
def G_M_links_20 (N : Nat)  (x1 : Int32) (x2 : Int32) (t0 : Int32) (s : mst) : Option (Int32 × mst) :=
    if t0 = 0 then
    G_M_links_39 N t0 s
    else
    ((stA 3 s 109 462 x1 1).bind fun s3 =>
    (stA 3 s3 109 462 x2 1).bind fun s4 =>
    G_M_links_39 N t0 s4)
theorem sG_M_links_20 {h0 : Nat → pm_C} {B : Nat} {D : Nat → pd} {hi z N : Nat} (h : FX D hi)   {x1 : Int32} {x2 : Int32} {t0 : Int32} {s : mst} : F_M_links_20 N  (B + 85) x1 x2 t0 (mkM h0 B D hi z s) = (G_M_links_20 N  x1 x2 t0 s).map (cvM h0 B D hi z) := by
  simp only [F_M_links_20, G_M_links_20, aim_109 h, rdm_85_35 h, sim_109 h, sG_M_links_39 h, Option.bind_some, Option.map_bind, Option.bind_map, Option.map_some, Option.map_none, Option.bind_none, apply_ite (Option.map _), if_true, Function.comp_def, cvM]
  all_goals rfl
def G_M_links (N : Nat) (s : mst) (p0 : Int32) (p1 : Int32) : Option (Int32 × mst) :=
    (rdA s 109 462 p0).bind fun v1 =>
    (rdA s 109 462 p1).bind fun v2 =>
    if v1 = v2 then
    G_M_links_20 N p0 p1 0 s
    else
    G_M_links_20 N p0 p1 1 s
theorem sg_M_links {h0 : Nat → pm_C} {B : Nat} {D : Nat → pd} {hi z N : Nat} (h : FX D hi) {p0 : Int32} {p1 : Int32} {s : mst} : F_M_links N (mkM h0 B D hi z s) (B + 85) p0 p1 = (G_M_links N s p0 p1).map (cvM h0 B D hi z) := by
  simp only [F_M_links, G_M_links, aim_109 h, rdm_85_35 h, sim_109 h, sG_M_links_39 h, sG_M_links_20 h, rcm_85 h, Option.bind_some, Option.map_bind, Option.bind_map, Option.map_some, Option.map_none, Option.bind_none, apply_ite (Option.map _), if_true, Function.comp_def, cvM]
  all_goals rfl
def G_M_sound_282 (N : Nat)   (s : mst) : Option mst :=
    some s
theorem sG_M_sound_282 {h0 : Nat → pm_C} {B : Nat} {D : Nat → pd} {hi z N : Nat} (h : FX D hi)    {s : mst} : F_M_sound_282 N   (mkM h0 B D hi z s) = (G_M_sound_282 N   s).map (mkM h0 B D hi z) := by
  simp only [F_M_sound_282, G_M_sound_282, aim_100 h, aim_101 h, aim_102 h, aim_103 h, aim_104 h, aim_105 h, aim_106 h, aim_88 h, aim_91 h, rdm_85_10 h, rdm_85_20 h, rdm_85_21 h, rdm_85_22 h, rdm_85_23 h, rdm_85_24 h, rdm_85_25 h, rdm_85_26 h, rdm_85_29 h, rdm_85_34 h, rdm_85_35 h, rdm_85_7 h, sg_M_breaksTo h, sg_M_farNode h, sg_M_isSo h, sg_M_links h, sg_M_nearNode h, sg_M_node h, sim_109 h, Option.bind_some, Option.map_bind, Option.bind_map, Option.map_some, Option.map_none, Option.bind_none, apply_ite (Option.map _), if_true, Function.comp_def, cvM]
  all_goals rfl
def G_M_sound_279 (N : Nat) (rec31 : Int32 → mst → Option mst) (x2 : Int32) (s : mst) : Option mst :=
    rec31 x2 s
theorem sG_M_sound_279 {h0 : Nat → pm_C} {B : Nat} {D : Nat → pd} {hi z N : Nat} (h : FX D hi) {rec31 : Int32 → pm_S → Option pm_S} {grec31 : Int32 → mst → Option mst} (hrec31 : ∀ (y1 : Int32) (s : mst), rec31 y1 (mkM h0 B D hi z s) = (grec31 y1 s).map (mkM h0 B D hi z)) {x2 : Int32} {s : mst} : F_M_sound_279 N rec31 (B + 85) x2 (mkM h0 B D hi z s) = (G_M_sound_279 N grec31 x2 s).map (mkM h0 B D hi z) := by
  simp only [F_M_sound_279, G_M_sound_279, aim_100 h, aim_101 h, aim_102 h, aim_103 h, aim_104 h, aim_105 h, aim_106 h, aim_88 h, aim_91 h, rdm_85_10 h, rdm_85_20 h, rdm_85_21 h, rdm_85_22 h, rdm_85_23 h, rdm_85_24 h, rdm_85_25 h, rdm_85_26 h, rdm_85_29 h, rdm_85_34 h, rdm_85_35 h, rdm_85_7 h, sg_M_breaksTo h, sg_M_farNode h, sg_M_isSo h, sg_M_links h, sg_M_nearNode h, sg_M_node h, sim_109 h, sG_M_sound_282 h, hrec31, Option.bind_some, Option.map_bind, Option.bind_map, Option.map_some, Option.map_none, Option.bind_none, apply_ite (Option.map _), if_true, Function.comp_def, cvM]
  all_goals rfl
def G_M_sound_273 (N : Nat) (rec31 : Int32 → mst → Option mst) (rec138 : Int32 → Int32 → mst → Option mst) (x2 : Int32) (x3 : Int32) (s : mst) : Option mst :=
    rec138 x2 (x3 + 1) s
theorem sG_M_sound_273 {h0 : Nat → pm_C} {B : Nat} {D : Nat → pd} {hi z N : Nat} (h : FX D hi) {rec31 : Int32 → pm_S → Option pm_S} {grec31 : Int32 → mst → Option mst} {rec138 : Int32 → Int32 → pm_S → Option pm_S} {grec138 : Int32 → Int32 → mst → Option mst} (hrec31 : ∀ (y1 : Int32) (s : mst), rec31 y1 (mkM h0 B D hi z s) = (grec31 y1 s).map (mkM h0 B D hi z)) (hrec138 : ∀ (y1 : Int32) (y2 : Int32) (s : mst), rec138 y1 y2 (mkM h0 B D hi z s) = (grec138 y1 y2 s).map (mkM h0 B D hi z)) {x2 : Int32} {x3 : Int32} {s : mst} : F_M_sound_273 N rec31 rec138 (B + 85) x2 x3 (mkM h0 B D hi z s) = (G_M_sound_273 N grec31 grec138 x2 x3 s).map (mkM h0 B D hi z) := by
  simp only [F_M_sound_273, G_M_sound_273, aim_100 h, aim_101 h, aim_102 h, aim_103 h, aim_104 h, aim_105 h, aim_106 h, aim_88 h, aim_91 h, rdm_85_10 h, rdm_85_20 h, rdm_85_21 h, rdm_85_22 h, rdm_85_23 h, rdm_85_24 h, rdm_85_25 h, rdm_85_26 h, rdm_85_29 h, rdm_85_34 h, rdm_85_35 h, rdm_85_7 h, sg_M_breaksTo h, sg_M_farNode h, sg_M_isSo h, sg_M_links h, sg_M_nearNode h, sg_M_node h, sim_109 h, sG_M_sound_282 h, sG_M_sound_279 h hrec31, hrec31, hrec138, Option.bind_some, Option.map_bind, Option.bind_map, Option.map_some, Option.map_none, Option.bind_none, apply_ite (Option.map _), if_true, Function.comp_def, cvM]
  all_goals rfl
def GB_M_sound_138 (N : Nat) (rec31 : Int32 → mst → Option mst) (rec138 : Int32 → Int32 → mst → Option mst)  (x2 : Int32) (x3 : Int32) (s : mst) : Option mst :=
    (rdA s 100 7 (s.1 85 29)).bind fun v3 =>
    if v3 ≤ x3 then
    G_M_sound_279 N rec31 x2 s
    else
    (if (s.1 85 34) = 0 then
    G_M_sound_279 N rec31 x2 s
    else
    ((G_M_isSo N s x3).bind fun r5 =>
    if r5.1 = 0 then
    G_M_sound_273 N rec31 rec138 x2 x3 r5.2
    else
    ((rdA r5.2 101 60 ((10 * (s.1 85 29)) + x3)).bind fun v6 =>
    if v6 = 2 then
    ((rdA r5.2 102 60 ((10 * (s.1 85 29)) + x3)).bind fun v7 =>
    (rdA r5.2 103 60 ((10 * (s.1 85 29)) + x3)).bind fun v8 =>
    (rdA r5.2 103 60 ((10 * (s.1 85 29)) + x3)).bind fun v9 =>
    (rdA r5.2 105 60 ((10 * (s.1 85 29)) + x3)).bind fun v10 =>
    (G_M_breaksTo N r5.2 v7 v9 v10).bind fun r12 =>
    (G_M_node N r12.2 v7 v8 r12.1).bind fun r14 =>
    (rdA r14.2 104 60 ((10 * (s.1 85 29)) + x3)).bind fun v15 =>
    (rdA r14.2 104 60 ((10 * (s.1 85 29)) + x3)).bind fun v16 =>
    (rdA r14.2 105 60 ((10 * (s.1 85 29)) + x3)).bind fun v17 =>
    (G_M_breaksTo N r14.2 v7 v16 v17).bind fun r19 =>
    (G_M_node N r19.2 v7 v15 r19.1).bind fun r21 =>
    (G_M_links N r21.2 r14.1 r21.1).bind fun r23 =>
    if r23.1 = 0 then
    G_M_sound_273 N rec31 rec138 x2 x3 r23.2
    else
    G_M_sound_273 N rec31 rec138 1 x3 r23.2)
    else
    G_M_sound_273 N rec31 rec138 x2 x3 r5.2)))
theorem sGB_M_sound_138 {h0 : Nat → pm_C} {B : Nat} {D : Nat → pd} {hi z N : Nat} (h : FX D hi) {rec31 : Int32 → pm_S → Option pm_S} {grec31 : Int32 → mst → Option mst} {rec138 : Int32 → Int32 → pm_S → Option pm_S} {grec138 : Int32 → Int32 → mst → Option mst} (hrec31 : ∀ (y1 : Int32) (s : mst), rec31 y1 (mkM h0 B D hi z s) = (grec31 y1 s).map (mkM h0 B D hi z)) (hrec138 : ∀ (y1 : Int32) (y2 : Int32) (s : mst), rec138 y1 y2 (mkM h0 B D hi z s) = (grec138 y1 y2 s).map (mkM h0 B D hi z)) {x2 : Int32} {x3 : Int32} {s : mst} : B_M_sound_138 N rec31 rec138 (B + 85) x2 x3 (mkM h0 B D hi z s) = (GB_M_sound_138 N grec31 grec138 x2 x3 s).map (mkM h0 B D hi z) := by
  simp only [B_M_sound_138, GB_M_sound_138, aim_100 h, aim_101 h, aim_102 h, aim_103 h, aim_104 h, aim_105 h, aim_106 h, aim_88 h, aim_91 h, rdm_85_10 h, rdm_85_20 h, rdm_85_21 h, rdm_85_22 h, rdm_85_23 h, rdm_85_24 h, rdm_85_25 h, rdm_85_26 h, rdm_85_29 h, rdm_85_34 h, rdm_85_35 h, rdm_85_7 h, sg_M_breaksTo h, sg_M_farNode h, sg_M_isSo h, sg_M_links h, sg_M_nearNode h, sg_M_node h, sim_109 h, sG_M_sound_282 h, sG_M_sound_279 h hrec31, sG_M_sound_273 h hrec31 hrec138, hrec31, hrec138, Option.bind_some, Option.map_bind, Option.bind_map, Option.map_some, Option.map_none, Option.bind_none, apply_ite (Option.map _), if_true, Function.comp_def, cvM]
  all_goals rfl
def G_M_sound_138 (N : Nat) (rec31 : Int32 → mst → Option mst)  : Nat → Int32 → Int32 → mst → Option mst
  | 0 => fun _ _ _ => none
  | n + 1 => fun x2 x3 s => GB_M_sound_138 N rec31 (G_M_sound_138 N rec31  n)  x2 x3 s
theorem sG_M_sound_138 {h0 : Nat → pm_C} {B : Nat} {D : Nat → pd} {hi z N : Nat} (h : FX D hi) {rec31 : Int32 → pm_S → Option pm_S} {grec31 : Int32 → mst → Option mst} (hrec31 : ∀ (y1 : Int32) (s : mst), rec31 y1 (mkM h0 B D hi z s) = (grec31 y1 s).map (mkM h0 B D hi z))  : ∀ (n : Nat) (x2 : Int32) (x3 : Int32) (s : mst), F_M_sound_138 N rec31 (B + 85) n x2 x3 (mkM h0 B D hi z s) = (G_M_sound_138 N grec31  n x2 x3 s).map (mkM h0 B D hi z) := by
  intro n
  induction n with
  | zero => intro x2 x3 s; rfl
  | succ n ih => intro x2 x3 s; exact sGB_M_sound_138 h hrec31 ih
def G_M_sound_136 (N : Nat) (rec31 : Int32 → mst → Option mst) (x2 : Int32) (s : mst) : Option mst :=
    G_M_sound_138 N rec31 N x2 0 s
theorem sG_M_sound_136 {h0 : Nat → pm_C} {B : Nat} {D : Nat → pd} {hi z N : Nat} (h : FX D hi) {rec31 : Int32 → pm_S → Option pm_S} {grec31 : Int32 → mst → Option mst} (hrec31 : ∀ (y1 : Int32) (s : mst), rec31 y1 (mkM h0 B D hi z s) = (grec31 y1 s).map (mkM h0 B D hi z)) {x2 : Int32} {s : mst} : F_M_sound_136 N rec31 (B + 85) x2 (mkM h0 B D hi z s) = (G_M_sound_136 N grec31 x2 s).map (mkM h0 B D hi z) := by
  simp only [F_M_sound_136, G_M_sound_136, aim_100 h, aim_101 h, aim_102 h, aim_103 h, aim_104 h, aim_105 h, aim_106 h, aim_88 h, aim_91 h, rdm_85_10 h, rdm_85_20 h, rdm_85_21 h, rdm_85_22 h, rdm_85_23 h, rdm_85_24 h, rdm_85_25 h, rdm_85_26 h, rdm_85_29 h, rdm_85_34 h, rdm_85_35 h, rdm_85_7 h, sg_M_breaksTo h, sg_M_farNode h, sg_M_isSo h, sg_M_links h, sg_M_nearNode h, sg_M_node h, sim_109 h, sG_M_sound_282 h, sG_M_sound_279 h hrec31, sG_M_sound_138 h hrec31, hrec31, Option.bind_some, Option.map_bind, Option.bind_map, Option.map_some, Option.map_none, Option.bind_none, apply_ite (Option.map _), if_true, Function.comp_def, cvM]
  all_goals rfl
def G_M_sound_130 (N : Nat) (rec31 : Int32 → mst → Option mst) (rec39 : Int32 → Int32 → mst → Option mst) (x2 : Int32) (x3 : Int32) (s : mst) : Option mst :=
    rec39 x2 (x3 + 1) s
theorem sG_M_sound_130 {h0 : Nat → pm_C} {B : Nat} {D : Nat → pd} {hi z N : Nat} (h : FX D hi) {rec31 : Int32 → pm_S → Option pm_S} {grec31 : Int32 → mst → Option mst} {rec39 : Int32 → Int32 → pm_S → Option pm_S} {grec39 : Int32 → Int32 → mst → Option mst} (hrec31 : ∀ (y1 : Int32) (s : mst), rec31 y1 (mkM h0 B D hi z s) = (grec31 y1 s).map (mkM h0 B D hi z)) (hrec39 : ∀ (y1 : Int32) (y2 : Int32) (s : mst), rec39 y1 y2 (mkM h0 B D hi z s) = (grec39 y1 y2 s).map (mkM h0 B D hi z)) {x2 : Int32} {x3 : Int32} {s : mst} : F_M_sound_130 N rec31 rec39 (B + 85) x2 x3 (mkM h0 B D hi z s) = (G_M_sound_130 N grec31 grec39 x2 x3 s).map (mkM h0 B D hi z) := by
  simp only [F_M_sound_130, G_M_sound_130, aim_100 h, aim_101 h, aim_102 h, aim_103 h, aim_104 h, aim_105 h, aim_106 h, aim_88 h, aim_91 h, rdm_85_10 h, rdm_85_20 h, rdm_85_21 h, rdm_85_22 h, rdm_85_23 h, rdm_85_24 h, rdm_85_25 h, rdm_85_26 h, rdm_85_29 h, rdm_85_34 h, rdm_85_35 h, rdm_85_7 h, sg_M_breaksTo h, sg_M_farNode h, sg_M_isSo h, sg_M_links h, sg_M_nearNode h, sg_M_node h, sim_109 h, sG_M_sound_282 h, sG_M_sound_279 h hrec31, sG_M_sound_138 h hrec31, sG_M_sound_136 h hrec31, hrec31, hrec39, Option.bind_some, Option.map_bind, Option.bind_map, Option.map_some, Option.map_none, Option.bind_none, apply_ite (Option.map _), if_true, Function.comp_def, cvM]
  all_goals rfl
def G_M_sound_124 (N : Nat) (rec31 : Int32 → mst → Option mst) (rec39 : Int32 → Int32 → mst → Option mst) (rec55 : Int32 → Int32 → mst → Option mst) (x2 : Int32) (x3 : Int32) (x4 : Int32) (s : mst) : Option mst :=
    rec55 x2 (x4 + 1) s
theorem sG_M_sound_124 {h0 : Nat → pm_C} {B : Nat} {D : Nat → pd} {hi z N : Nat} (h : FX D hi) {rec31 : Int32 → pm_S → Option pm_S} {grec31 : Int32 → mst → Option mst} {rec39 : Int32 → Int32 → pm_S → Option pm_S} {grec39 : Int32 → Int32 → mst → Option mst} {rec55 : Int32 → Int32 → pm_S → Option pm_S} {grec55 : Int32 → Int32 → mst → Option mst} (hrec31 : ∀ (y1 : Int32) (s : mst), rec31 y1 (mkM h0 B D hi z s) = (grec31 y1 s).map (mkM h0 B D hi z)) (hrec39 : ∀ (y1 : Int32) (y2 : Int32) (s : mst), rec39 y1 y2 (mkM h0 B D hi z s) = (grec39 y1 y2 s).map (mkM h0 B D hi z)) (hrec55 : ∀ (y1 : Int32) (y2 : Int32) (s : mst), rec55 y1 y2 (mkM h0 B D hi z s) = (grec55 y1 y2 s).map (mkM h0 B D hi z)) {x2 : Int32} {x3 : Int32} {x4 : Int32} {s : mst} : F_M_sound_124 N rec31 rec39 rec55 (B + 85) x2 x3 x4 (mkM h0 B D hi z s) = (G_M_sound_124 N grec31 grec39 grec55 x2 x3 x4 s).map (mkM h0 B D hi z) := by
  simp only [F_M_sound_124, G_M_sound_124, aim_100 h, aim_101 h, aim_102 h, aim_103 h, aim_104 h, aim_105 h, aim_106 h, aim_88 h, aim_91 h, rdm_85_10 h, rdm_85_20 h, rdm_85_21 h, rdm_85_22 h, rdm_85_23 h, rdm_85_24 h, rdm_85_25 h, rdm_85_26 h, rdm_85_29 h, rdm_85_34 h, rdm_85_35 h, rdm_85_7 h, sg_M_breaksTo h, sg_M_farNode h, sg_M_isSo h, sg_M_links h, sg_M_nearNode h, sg_M_node h, sim_109 h, sG_M_sound_282 h, sG_M_sound_279 h hrec31, sG_M_sound_138 h hrec31, sG_M_sound_136 h hrec31, sG_M_sound_130 h hrec31 hrec39, hrec31, hrec39, hrec55, Option.bind_some, Option.map_bind, Option.bind_map, Option.map_some, Option.map_none, Option.bind_none, apply_ite (Option.map _), if_true, Function.comp_def, cvM]
  all_goals rfl
def GB_M_sound_55 (N : Nat) (rec31 : Int32 → mst → Option mst) (rec39 : Int32 → Int32 → mst → Option mst) (rec55 : Int32 → Int32 → mst → Option mst) (x3 : Int32) (x2 : Int32) (x4 : Int32) (s : mst) : Option mst :=
    (rdA s 91 49 ((7 * (s.1 85 29)) + x3)).bind fun v24 =>
    if v24 ≤ x4 then
    G_M_sound_130 N rec31 rec39 x2 x3 s
    else
    ((rdA s 106 42 ((6 * x3) + x4)).bind fun v25 =>
    if v25 = (-1) then
    G_M_sound_124 N rec31 rec39 rec55 x2 x3 x4 s
    else
    ((G_M_farNode N s x3 x4).bind fun r27 =>
    (G_M_nearNode N r27.2 (v25 / 6) (v25 - v25 / 6 * 6)).bind fun r29 =>
    (G_M_links N r29.2 r27.1 r29.1).bind fun r31 =>
    if r31.1 = 0 then
    G_M_sound_124 N rec31 rec39 rec55 x2 x3 x4 r31.2
    else
    G_M_sound_124 N rec31 rec39 rec55 1 x3 x4 r31.2))
theorem sGB_M_sound_55 {h0 : Nat → pm_C} {B : Nat} {D : Nat → pd} {hi z N : Nat} (h : FX D hi) {rec31 : Int32 → pm_S → Option pm_S} {grec31 : Int32 → mst → Option mst} {rec39 : Int32 → Int32 → pm_S → Option pm_S} {grec39 : Int32 → Int32 → mst → Option mst} {rec55 : Int32 → Int32 → pm_S → Option pm_S} {grec55 : Int32 → Int32 → mst → Option mst} (hrec31 : ∀ (y1 : Int32) (s : mst), rec31 y1 (mkM h0 B D hi z s) = (grec31 y1 s).map (mkM h0 B D hi z)) (hrec39 : ∀ (y1 : Int32) (y2 : Int32) (s : mst), rec39 y1 y2 (mkM h0 B D hi z s) = (grec39 y1 y2 s).map (mkM h0 B D hi z)) (hrec55 : ∀ (y1 : Int32) (y2 : Int32) (s : mst), rec55 y1 y2 (mkM h0 B D hi z s) = (grec55 y1 y2 s).map (mkM h0 B D hi z)) {x2 : Int32} {x3 : Int32} {x4 : Int32} {s : mst} : B_M_sound_55 N rec31 rec39 rec55 (B + 85) x3 x2 x4 (mkM h0 B D hi z s) = (GB_M_sound_55 N grec31 grec39 grec55 x3 x2 x4 s).map (mkM h0 B D hi z) := by
  simp only [B_M_sound_55, GB_M_sound_55, aim_100 h, aim_101 h, aim_102 h, aim_103 h, aim_104 h, aim_105 h, aim_106 h, aim_88 h, aim_91 h, rdm_85_10 h, rdm_85_20 h, rdm_85_21 h, rdm_85_22 h, rdm_85_23 h, rdm_85_24 h, rdm_85_25 h, rdm_85_26 h, rdm_85_29 h, rdm_85_34 h, rdm_85_35 h, rdm_85_7 h, sg_M_breaksTo h, sg_M_farNode h, sg_M_isSo h, sg_M_links h, sg_M_nearNode h, sg_M_node h, sim_109 h, sG_M_sound_282 h, sG_M_sound_279 h hrec31, sG_M_sound_138 h hrec31, sG_M_sound_136 h hrec31, sG_M_sound_130 h hrec31 hrec39, sG_M_sound_124 h hrec31 hrec39 hrec55, hrec31, hrec39, hrec55, Option.bind_some, Option.map_bind, Option.bind_map, Option.map_some, Option.map_none, Option.bind_none, apply_ite (Option.map _), if_true, Function.comp_def, cvM]
  all_goals rfl
def G_M_sound_55 (N : Nat) (rec31 : Int32 → mst → Option mst) (rec39 : Int32 → Int32 → mst → Option mst) (x3 : Int32) : Nat → Int32 → Int32 → mst → Option mst
  | 0 => fun _ _ _ => none
  | n + 1 => fun x2 x4 s => GB_M_sound_55 N rec31 rec39 (G_M_sound_55 N rec31 rec39 x3 n) x3 x2 x4 s
theorem sG_M_sound_55 {h0 : Nat → pm_C} {B : Nat} {D : Nat → pd} {hi z N : Nat} (h : FX D hi) {rec31 : Int32 → pm_S → Option pm_S} {grec31 : Int32 → mst → Option mst} {rec39 : Int32 → Int32 → pm_S → Option pm_S} {grec39 : Int32 → Int32 → mst → Option mst} (hrec31 : ∀ (y1 : Int32) (s : mst), rec31 y1 (mkM h0 B D hi z s) = (grec31 y1 s).map (mkM h0 B D hi z)) (hrec39 : ∀ (y1 : Int32) (y2 : Int32) (s : mst), rec39 y1 y2 (mkM h0 B D hi z s) = (grec39 y1 y2 s).map (mkM h0 B D hi z)) {x3 : Int32} : ∀ (n : Nat) (x2 : Int32) (x4 : Int32) (s : mst), F_M_sound_55 N rec31 rec39 (B + 85) x3 n x2 x4 (mkM h0 B D hi z s) = (G_M_sound_55 N grec31 grec39 x3 n x2 x4 s).map (mkM h0 B D hi z) := by
  intro n
  induction n with
  | zero => intro x2 x4 s; rfl
  | succ n ih => intro x2 x4 s; exact sGB_M_sound_55 h hrec31 hrec39 ih
def GB_M_sound_39 (N : Nat) (rec31 : Int32 → mst → Option mst) (rec39 : Int32 → Int32 → mst → Option mst)  (x2 : Int32) (x3 : Int32) (s : mst) : Option mst :=
    (rdA s 88 7 (s.1 85 29)).bind fun v2 =>
    if v2 ≤ x3 then
    G_M_sound_136 N rec31 x2 s
    else
    G_M_sound_55 N rec31 rec39 x3 N x2 0 s
theorem sGB_M_sound_39 {h0 : Nat → pm_C} {B : Nat} {D : Nat → pd} {hi z N : Nat} (h : FX D hi) {rec31 : Int32 → pm_S → Option pm_S} {grec31 : Int32 → mst → Option mst} {rec39 : Int32 → Int32 → pm_S → Option pm_S} {grec39 : Int32 → Int32 → mst → Option mst} (hrec31 : ∀ (y1 : Int32) (s : mst), rec31 y1 (mkM h0 B D hi z s) = (grec31 y1 s).map (mkM h0 B D hi z)) (hrec39 : ∀ (y1 : Int32) (y2 : Int32) (s : mst), rec39 y1 y2 (mkM h0 B D hi z s) = (grec39 y1 y2 s).map (mkM h0 B D hi z)) {x2 : Int32} {x3 : Int32} {s : mst} : B_M_sound_39 N rec31 rec39 (B + 85) x2 x3 (mkM h0 B D hi z s) = (GB_M_sound_39 N grec31 grec39 x2 x3 s).map (mkM h0 B D hi z) := by
  simp only [B_M_sound_39, GB_M_sound_39, aim_100 h, aim_101 h, aim_102 h, aim_103 h, aim_104 h, aim_105 h, aim_106 h, aim_88 h, aim_91 h, rdm_85_10 h, rdm_85_20 h, rdm_85_21 h, rdm_85_22 h, rdm_85_23 h, rdm_85_24 h, rdm_85_25 h, rdm_85_26 h, rdm_85_29 h, rdm_85_34 h, rdm_85_35 h, rdm_85_7 h, sg_M_breaksTo h, sg_M_farNode h, sg_M_isSo h, sg_M_links h, sg_M_nearNode h, sg_M_node h, sim_109 h, sG_M_sound_282 h, sG_M_sound_279 h hrec31, sG_M_sound_138 h hrec31, sG_M_sound_136 h hrec31, sG_M_sound_130 h hrec31 hrec39, sG_M_sound_55 h hrec31 hrec39, hrec31, hrec39, Option.bind_some, Option.map_bind, Option.bind_map, Option.map_some, Option.map_none, Option.bind_none, apply_ite (Option.map _), if_true, Function.comp_def, cvM]
  all_goals rfl
def G_M_sound_39 (N : Nat) (rec31 : Int32 → mst → Option mst)  : Nat → Int32 → Int32 → mst → Option mst
  | 0 => fun _ _ _ => none
  | n + 1 => fun x2 x3 s => GB_M_sound_39 N rec31 (G_M_sound_39 N rec31  n)  x2 x3 s
theorem sG_M_sound_39 {h0 : Nat → pm_C} {B : Nat} {D : Nat → pd} {hi z N : Nat} (h : FX D hi) {rec31 : Int32 → pm_S → Option pm_S} {grec31 : Int32 → mst → Option mst} (hrec31 : ∀ (y1 : Int32) (s : mst), rec31 y1 (mkM h0 B D hi z s) = (grec31 y1 s).map (mkM h0 B D hi z))  : ∀ (n : Nat) (x2 : Int32) (x3 : Int32) (s : mst), F_M_sound_39 N rec31 (B + 85) n x2 x3 (mkM h0 B D hi z s) = (G_M_sound_39 N grec31  n x2 x3 s).map (mkM h0 B D hi z) := by
  intro n
  induction n with
  | zero => intro x2 x3 s; rfl
  | succ n ih => intro x2 x3 s; exact sGB_M_sound_39 h hrec31 ih
def GB_M_sound_31 (N : Nat)  (rec31 : Int32 → mst → Option mst)  (x2 : Int32) (s : mst) : Option mst :=
    if x2 = 0 then
    G_M_sound_282 N s
    else
    G_M_sound_39 N rec31 N 0 0 s
theorem sGB_M_sound_31 {h0 : Nat → pm_C} {B : Nat} {D : Nat → pd} {hi z N : Nat} (h : FX D hi) {rec31 : Int32 → pm_S → Option pm_S} {grec31 : Int32 → mst → Option mst} (hrec31 : ∀ (y1 : Int32) (s : mst), rec31 y1 (mkM h0 B D hi z s) = (grec31 y1 s).map (mkM h0 B D hi z)) {x2 : Int32} {s : mst} : B_M_sound_31 N rec31 (B + 85) x2 (mkM h0 B D hi z s) = (GB_M_sound_31 N grec31 x2 s).map (mkM h0 B D hi z) := by
  simp only [B_M_sound_31, GB_M_sound_31, aim_100 h, aim_101 h, aim_102 h, aim_103 h, aim_104 h, aim_105 h, aim_106 h, aim_88 h, aim_91 h, rdm_85_10 h, rdm_85_20 h, rdm_85_21 h, rdm_85_22 h, rdm_85_23 h, rdm_85_24 h, rdm_85_25 h, rdm_85_26 h, rdm_85_29 h, rdm_85_34 h, rdm_85_35 h, rdm_85_7 h, sg_M_breaksTo h, sg_M_farNode h, sg_M_isSo h, sg_M_links h, sg_M_nearNode h, sg_M_node h, sim_109 h, sG_M_sound_282 h, sG_M_sound_279 h hrec31, sG_M_sound_138 h hrec31, sG_M_sound_136 h hrec31, sG_M_sound_39 h hrec31, hrec31, Option.bind_some, Option.map_bind, Option.bind_map, Option.map_some, Option.map_none, Option.bind_none, apply_ite (Option.map _), if_true, Function.comp_def, cvM]
  all_goals rfl
def G_M_sound_31 (N : Nat)   : Nat → Int32 → mst → Option mst
  | 0 => fun _ _ => none
  | n + 1 => fun x2 s => GB_M_sound_31 N  (G_M_sound_31 N   n)  x2 s
theorem sG_M_sound_31 {h0 : Nat → pm_C} {B : Nat} {D : Nat → pd} {hi z N : Nat} (h : FX D hi)    : ∀ (n : Nat) (x2 : Int32) (s : mst), F_M_sound_31 N  (B + 85) n x2 (mkM h0 B D hi z s) = (G_M_sound_31 N   n x2 s).map (mkM h0 B D hi z) := by
  intro n
  induction n with
  | zero => intro x2 s; rfl
  | succ n ih => intro x2 s; exact sGB_M_sound_31 h  ih
def G_M_sound_22 (N : Nat)  (x1 : Int32) (s : mst) : Option mst :=
    (stA 3 s 109 462 x1 1).bind fun s1 =>
    G_M_sound_31 N  N 1 s1
theorem sG_M_sound_22 {h0 : Nat → pm_C} {B : Nat} {D : Nat → pd} {hi z N : Nat} (h : FX D hi)   {x1 : Int32} {s : mst} : F_M_sound_22 N  (B + 85) x1 (mkM h0 B D hi z s) = (G_M_sound_22 N  x1 s).map (mkM h0 B D hi z) := by
  simp only [F_M_sound_22, G_M_sound_22, aim_100 h, aim_101 h, aim_102 h, aim_103 h, aim_104 h, aim_105 h, aim_106 h, aim_88 h, aim_91 h, rdm_85_10 h, rdm_85_20 h, rdm_85_21 h, rdm_85_22 h, rdm_85_23 h, rdm_85_24 h, rdm_85_25 h, rdm_85_26 h, rdm_85_29 h, rdm_85_34 h, rdm_85_35 h, rdm_85_7 h, sg_M_breaksTo h, sg_M_farNode h, sg_M_isSo h, sg_M_links h, sg_M_nearNode h, sg_M_node h, sim_109 h, sG_M_sound_282 h, sG_M_sound_31 h, Option.bind_some, Option.map_bind, Option.bind_map, Option.map_some, Option.map_none, Option.bind_none, apply_ite (Option.map _), if_true, Function.comp_def, cvM]
  all_goals rfl
def GB_M_sound_2 (N : Nat)  (rec2 : Int32 → mst → Option mst) (x1 : Int32) (x2 : Int32) (s : mst) : Option mst :=
    if 462 ≤ x2 then
    G_M_sound_22 N x1 s
    else
    ((stA 3 s 109 462 x2 0).bind fun s32 =>
    rec2 (x2 + 1) s32)
theorem sGB_M_sound_2 {h0 : Nat → pm_C} {B : Nat} {D : Nat → pd} {hi z N : Nat} (h : FX D hi) {rec2 : Int32 → pm_S → Option pm_S} {grec2 : Int32 → mst → Option mst} (hrec2 : ∀ (y1 : Int32) (s : mst), rec2 y1 (mkM h0 B D hi z s) = (grec2 y1 s).map (mkM h0 B D hi z)) {x1 : Int32} {x2 : Int32} {s : mst} : B_M_sound_2 N rec2 (B + 85) x1 x2 (mkM h0 B D hi z s) = (GB_M_sound_2 N grec2 x1 x2 s).map (mkM h0 B D hi z) := by
  simp only [B_M_sound_2, GB_M_sound_2, aim_100 h, aim_101 h, aim_102 h, aim_103 h, aim_104 h, aim_105 h, aim_106 h, aim_88 h, aim_91 h, rdm_85_10 h, rdm_85_20 h, rdm_85_21 h, rdm_85_22 h, rdm_85_23 h, rdm_85_24 h, rdm_85_25 h, rdm_85_26 h, rdm_85_29 h, rdm_85_34 h, rdm_85_35 h, rdm_85_7 h, sg_M_breaksTo h, sg_M_farNode h, sg_M_isSo h, sg_M_links h, sg_M_nearNode h, sg_M_node h, sim_109 h, sG_M_sound_282 h, sG_M_sound_31 h, sG_M_sound_22 h, hrec2, Option.bind_some, Option.map_bind, Option.bind_map, Option.map_some, Option.map_none, Option.bind_none, apply_ite (Option.map _), if_true, Function.comp_def, cvM]
  all_goals rfl
def G_M_sound_2 (N : Nat)  (x1 : Int32) : Nat → Int32 → mst → Option mst
  | 0 => fun _ _ => none
  | n + 1 => fun x2 s => GB_M_sound_2 N  (G_M_sound_2 N  x1 n) x1 x2 s
theorem sG_M_sound_2 {h0 : Nat → pm_C} {B : Nat} {D : Nat → pd} {hi z N : Nat} (h : FX D hi)   {x1 : Int32} : ∀ (n : Nat) (x2 : Int32) (s : mst), F_M_sound_2 N  (B + 85) x1 n x2 (mkM h0 B D hi z s) = (G_M_sound_2 N  x1 n x2 s).map (mkM h0 B D hi z) := by
  intro n
  induction n with
  | zero => intro x2 s; rfl
  | succ n ih => intro x2 s; exact sGB_M_sound_2 h  ih
def G_M_sound (N : Nat) (s : mst) (p0 : Int32) : Option mst :=
    G_M_sound_2 N p0 N 0 s
theorem sg_M_sound {h0 : Nat → pm_C} {B : Nat} {D : Nat → pd} {hi z N : Nat} (h : FX D hi) {p0 : Int32} {s : mst} : F_M_sound N (mkM h0 B D hi z s) (B + 85) p0 = (G_M_sound N s p0).map (mkM h0 B D hi z) := by
  simp only [F_M_sound, G_M_sound, aim_100 h, aim_101 h, aim_102 h, aim_103 h, aim_104 h, aim_105 h, aim_106 h, aim_88 h, aim_91 h, rdm_85_10 h, rdm_85_20 h, rdm_85_21 h, rdm_85_22 h, rdm_85_23 h, rdm_85_24 h, rdm_85_25 h, rdm_85_26 h, rdm_85_29 h, rdm_85_34 h, rdm_85_35 h, rdm_85_7 h, sg_M_breaksTo h, sg_M_farNode h, sg_M_isSo h, sg_M_links h, sg_M_nearNode h, sg_M_node h, sim_109 h, sG_M_sound_282 h, sG_M_sound_31 h, sG_M_sound_22 h, sG_M_sound_2 h, rcm_85 h, Option.bind_some, Option.map_bind, Option.bind_map, Option.map_some, Option.map_none, Option.bind_none, apply_ite (Option.map _), if_true, Function.comp_def, cvM]
  all_goals rfl
def G_M_heardAt_74 (N : Nat)  (x6 : Int32) (s : mst) : Option (Int32 × mst) :=
    some (x6, s)
theorem sG_M_heardAt_74 {h0 : Nat → pm_C} {B : Nat} {D : Nat → pd} {hi z N : Nat} (h : FX D hi)   {x6 : Int32} {s : mst} : F_M_heardAt_74 N  x6 (mkM h0 B D hi z s) = (G_M_heardAt_74 N  x6 s).map (cvM h0 B D hi z) := by
  simp only [F_M_heardAt_74, G_M_heardAt_74, aim_109 h, aim_91 h, rdm_85_10 h, rdm_85_29 h, rdm_85_35 h, sg_M_nodeAt h, sg_M_sound h, Option.bind_some, Option.map_bind, Option.bind_map, Option.map_some, Option.map_none, Option.bind_none, apply_ite (Option.map _), if_true, Function.comp_def, cvM]
  all_goals rfl
def G_M_heardAt_65 (N : Nat) (rec17 : Int32 → Int32 → mst → Option (Int32 × mst)) (x4 : Int32) (x5 : Int32) (x7 : Int32) (t0 : Int32) (t1 : Int32) (s : mst) : Option (Int32 × mst) :=
    rec17 (t1 ||| t0) (x7 + 1) s
theorem sG_M_heardAt_65 {h0 : Nat → pm_C} {B : Nat} {D : Nat → pd} {hi z N : Nat} (h : FX D hi) {rec17 : Int32 → Int32 → pm_S → Option (Int32 × pm_S)} {grec17 : Int32 → Int32 → mst → Option (Int32 × mst)} (hrec17 : ∀ (y1 : Int32) (y2 : Int32) (s : mst), rec17 y1 y2 (mkM h0 B D hi z s) = (grec17 y1 y2 s).map (cvM h0 B D hi z)) {x4 : Int32} {x5 : Int32} {x7 : Int32} {t0 : Int32} {t1 : Int32} {s : mst} : F_M_heardAt_65 N rec17 (B + 85) x4 x5 x7 t0 t1 (mkM h0 B D hi z s) = (G_M_heardAt_65 N grec17 x4 x5 x7 t0 t1 s).map (cvM h0 B D hi z) := by
  simp only [F_M_heardAt_65, G_M_heardAt_65, aim_109 h, aim_91 h, rdm_85_10 h, rdm_85_29 h, rdm_85_35 h, sg_M_nodeAt h, sg_M_sound h, sG_M_heardAt_74 h, hrec17, Option.bind_some, Option.map_bind, Option.bind_map, Option.map_some, Option.map_none, Option.bind_none, apply_ite (Option.map _), if_true, Function.comp_def, cvM]
  all_goals rfl
def GB_M_heardAt_17 (N : Nat)  (rec17 : Int32 → Int32 → mst → Option (Int32 × mst)) (x4 : Int32) (x5 : Int32) (x6 : Int32) (x7 : Int32) (s : mst) : Option (Int32 × mst) :=
    (rdA s 91 49 ((7 * (s.1 85 29)) + x4)).bind fun v4 =>
    if v4 ≤ x7 then
    G_M_heardAt_74 N x6 s
    else
    ((G_M_nodeAt N s x4 x7 x5).bind fun r6 =>
    (rdA r6.2 109 462 r6.1).bind fun v7 =>
    if v7 = 0 then
    G_M_heardAt_65 N rec17 x4 x5 x7 0 x6 r6.2
    else
    G_M_heardAt_65 N rec17 x4 x5 x7 (1 <<< (x7 &&& 31)) x6 r6.2)
theorem sGB_M_heardAt_17 {h0 : Nat → pm_C} {B : Nat} {D : Nat → pd} {hi z N : Nat} (h : FX D hi) {rec17 : Int32 → Int32 → pm_S → Option (Int32 × pm_S)} {grec17 : Int32 → Int32 → mst → Option (Int32 × mst)} (hrec17 : ∀ (y1 : Int32) (y2 : Int32) (s : mst), rec17 y1 y2 (mkM h0 B D hi z s) = (grec17 y1 y2 s).map (cvM h0 B D hi z)) {x4 : Int32} {x5 : Int32} {x6 : Int32} {x7 : Int32} {s : mst} : B_M_heardAt_17 N rec17 (B + 85) x4 x5 x6 x7 (mkM h0 B D hi z s) = (GB_M_heardAt_17 N grec17 x4 x5 x6 x7 s).map (cvM h0 B D hi z) := by
  simp only [B_M_heardAt_17, GB_M_heardAt_17, aim_109 h, aim_91 h, rdm_85_10 h, rdm_85_29 h, rdm_85_35 h, sg_M_nodeAt h, sg_M_sound h, sG_M_heardAt_74 h, sG_M_heardAt_65 h hrec17, hrec17, Option.bind_some, Option.map_bind, Option.bind_map, Option.map_some, Option.map_none, Option.bind_none, apply_ite (Option.map _), if_true, Function.comp_def, cvM]
  all_goals rfl
def G_M_heardAt_17 (N : Nat)  (x4 : Int32) (x5 : Int32) : Nat → Int32 → Int32 → mst → Option (Int32 × mst)
  | 0 => fun _ _ _ => none
  | n + 1 => fun x6 x7 s => GB_M_heardAt_17 N  (G_M_heardAt_17 N  x4 x5 n) x4 x5 x6 x7 s
theorem sG_M_heardAt_17 {h0 : Nat → pm_C} {B : Nat} {D : Nat → pd} {hi z N : Nat} (h : FX D hi)   {x4 : Int32} {x5 : Int32} : ∀ (n : Nat) (x6 : Int32) (x7 : Int32) (s : mst), F_M_heardAt_17 N  (B + 85) x4 x5 n x6 x7 (mkM h0 B D hi z s) = (G_M_heardAt_17 N  x4 x5 n x6 x7 s).map (cvM h0 B D hi z) := by
  intro n
  induction n with
  | zero => intro x6 x7 s; rfl
  | succ n ih => intro x6 x7 s; exact sGB_M_heardAt_17 h  ih
def G_M_heardAt (N : Nat) (s : mst) (p0 : Int32) (p1 : Int32) (p2 : Int32) (p3 : Int32) (p4 : Int32) : Option (Int32 × mst) :=
    (G_M_nodeAt N s p0 p1 p2).bind fun r2 =>
    (G_M_sound N r2.2 r2.1).bind fun s3 =>
    G_M_heardAt_17 N p3 p4 N 0 0 s3
theorem sg_M_heardAt {h0 : Nat → pm_C} {B : Nat} {D : Nat → pd} {hi z N : Nat} (h : FX D hi) {p0 : Int32} {p1 : Int32} {p2 : Int32} {p3 : Int32} {p4 : Int32} {s : mst} : F_M_heardAt N (mkM h0 B D hi z s) (B + 85) p0 p1 p2 p3 p4 = (G_M_heardAt N s p0 p1 p2 p3 p4).map (cvM h0 B D hi z) := by
  simp only [F_M_heardAt, G_M_heardAt, aim_109 h, aim_91 h, rdm_85_10 h, rdm_85_29 h, rdm_85_35 h, sg_M_nodeAt h, sg_M_sound h, sG_M_heardAt_74 h, sG_M_heardAt_17 h, rcm_85 h, Option.bind_some, Option.map_bind, Option.bind_map, Option.map_some, Option.map_none, Option.bind_none, apply_ite (Option.map _), if_true, Function.comp_def, cvM]
  all_goals rfl
