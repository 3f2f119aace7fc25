def G_M_heard_52 (N : Nat)   (s : mst) : Option (Int32 × mst) :=
    some ((-1), s)
theorem sG_M_heard_52 {h0 : Nat → pm_C} {B : Nat} {D : Nat → pd} {hi z N : Nat} (h : FX D hi)    {s : mst} : F_M_heard_52 N   (mkM h0 B D hi z s) = (G_M_heard_52 N   s).map (cvM h0 B D hi z) := by
  simp only [F_M_heard_52, G_M_heard_52, sg_M_heardAt h, sg_M_isCable h, sg_M_isEnd h, sg_M_isPair h, sg_M_isWorld h, sg_M_lay h, wrm_85_0 h, Option.bind_some, Option.map_bind, Option.bind_map, Option.map_some, Option.map_none, Option.bind_none, apply_ite (Option.map _), if_true, Function.comp_def, cvM]
  all_goals rfl
def G_M_heard (N : Nat) (s : mst) (p0 : Int32) (p1 : Int32) (p2 : Int32) (p3 : Int32) (p4 : Int32) (p5 : Int32) (p6 : Int32) (p7 : Int32) : Option (Int32 × mst) :=
    (G_M_isWorld N (wrI s 85 0 0) p0 p1).bind fun r2 =>
    if r2.1 = 0 then
    G_M_heard_52 N r2.2
    else
    ((G_M_isPair N r2.2 p0 p3 p4).bind fun r4 =>
    if r4.1 = 0 then
    G_M_heard_52 N r4.2
    else
    ((G_M_isEnd N r4.2 p5).bind fun r6 =>
    if r6.1 = 0 then
    G_M_heard_52 N r6.2
    else
    ((G_M_isCable N r6.2 p0 p6).bind fun r8 =>
    if r8.1 = 0 then
    G_M_heard_52 N r8.2
    else
    ((G_M_isEnd N r8.2 p7).bind fun r10 =>
    if r10.1 = 0 then
    G_M_heard_52 N r10.2
    else
    ((G_M_lay N r10.2 p0 p1 p2).bind fun s11 =>
    (G_M_heardAt N s11 p3 p4 p5 p6 p7).bind fun r13 =>
    some (r13.1, r13.2))))))
theorem sg_M_heard {h0 : Nat → pm_C} {B : Nat} {D : Nat → pd} {hi z N : Nat} (h : FX D hi) {p0 : Int32} {p1 : Int32} {p2 : Int32} {p3 : Int32} {p4 : Int32} {p5 : Int32} {p6 : Int32} {p7 : Int32} {s : mst} : F_M_heard N (mkM h0 B D hi z s) (B + 85) p0 p1 p2 p3 p4 p5 p6 p7 = (G_M_heard N s p0 p1 p2 p3 p4 p5 p6 p7).map (cvM h0 B D hi z) := by
  simp only [F_M_heard, G_M_heard, sg_M_heardAt h, sg_M_isCable h, sg_M_isEnd h, sg_M_isPair h, sg_M_isWorld h, sg_M_lay h, wrm_85_0 h, sG_M_heard_52 h, rcm_85 h, Option.bind_some, Option.map_bind, Option.bind_map, Option.map_some, Option.map_none, Option.bind_none, apply_ite (Option.map _), if_true, Function.comp_def, cvM]
  all_goals rfl
def G_M_firstTouch_186 (N : Nat)  (x4 : Int32) (s : mst) : Option (Int32 × mst) :=
    some (x4, s)
theorem sG_M_firstTouch_186 {h0 : Nat → pm_C} {B : Nat} {D : Nat → pd} {hi z N : Nat} (h : FX D hi)   {x4 : Int32} {s : mst} : F_M_firstTouch_186 N  x4 (mkM h0 B D hi z s) = (G_M_firstTouch_186 N  x4 s).map (cvM h0 B D hi z) := by
  simp only [F_M_firstTouch_186, G_M_firstTouch_186, aim_100 h, aim_101 h, aim_102 h, aim_103 h, aim_104 h, aim_105 h, rdm_85_20 h, rdm_85_21 h, rdm_85_22 h, rdm_85_23 h, rdm_85_24 h, rdm_85_25 h, rdm_85_29 h, rdm_85_34 h, sg_M_breaksTo h, sg_M_isSo h, sg_M_longOf h, Option.bind_some, Option.map_bind, Option.bind_map, Option.map_some, Option.map_none, Option.bind_none, apply_ite (Option.map _), if_true, Function.comp_def, cvM]
  all_goals rfl
def G_M_firstTouch_180 (N : Nat) (rec27 : Int32 → Int32 → mst → Option (Int32 × mst)) (x1 : Int32) (x2 : Int32) (x3 : Int32) (x4 : Int32) (x5 : Int32) (x6 : Int32) (s : mst) : Option (Int32 × mst) :=
    rec27 x4 (x6 + 1) s
theorem sG_M_firstTouch_180 {h0 : Nat → pm_C} {B : Nat} {D : Nat → pd} {hi z N : Nat} (h : FX D hi) {rec27 : Int32 → Int32 → pm_S → Option (Int32 × pm_S)} {grec27 : Int32 → Int32 → mst → Option (Int32 × mst)} (hrec27 : ∀ (y1 : Int32) (y2 : Int32) (s : mst), rec27 y1 y2 (mkM h0 B D hi z s) = (grec27 y1 y2 s).map (cvM h0 B D hi z)) {x1 : Int32} {x2 : Int32} {x3 : Int32} {x4 : Int32} {x5 : Int32} {x6 : Int32} {s : mst} : F_M_firstTouch_180 N rec27 (B + 85) x1 x2 x3 x4 x5 x6 (mkM h0 B D hi z s) = (G_M_firstTouch_180 N grec27 x1 x2 x3 x4 x5 x6 s).map (cvM h0 B D hi z) := by
  simp only [F_M_firstTouch_180, G_M_firstTouch_180, aim_100 h, aim_101 h, aim_102 h, aim_103 h, aim_104 h, aim_105 h, rdm_85_20 h, rdm_85_21 h, rdm_85_22 h, rdm_85_23 h, rdm_85_24 h, rdm_85_25 h, rdm_85_29 h, rdm_85_34 h, sg_M_breaksTo h, sg_M_isSo h, sg_M_longOf h, sG_M_firstTouch_186 h, hrec27, Option.bind_some, Option.map_bind, Option.bind_map, Option.map_some, Option.map_none, Option.bind_none, apply_ite (Option.map _), if_true, Function.comp_def, cvM]
  all_goals rfl
def G_M_firstTouch_171 (N : Nat) (rec27 : Int32 → Int32 → mst → Option (Int32 × mst)) (x1 : Int32) (x2 : Int32) (x3 : Int32) (x5 : Int32) (x6 : Int32) (x7 : Int32) (s : mst) : Option (Int32 × mst) :=
    (rdA s 105 60 x7).bind fun v10 =>
    G_M_firstTouch_180 N rec27 x1 x2 x3 v10 x5 x6 s
theorem sG_M_firstTouch_171 {h0 : Nat → pm_C} {B : Nat} {D : Nat → pd} {hi z N : Nat} (h : FX D hi) {rec27 : Int32 → Int32 → pm_S → Option (Int32 × pm_S)} {grec27 : Int32 → Int32 → mst → Option (Int32 × mst)} (hrec27 : ∀ (y1 : Int32) (y2 : Int32) (s : mst), rec27 y1 y2 (mkM h0 B D hi z s) = (grec27 y1 y2 s).map (cvM h0 B D hi z)) {x1 : Int32} {x2 : Int32} {x3 : Int32} {x5 : Int32} {x6 : Int32} {x7 : Int32} {s : mst} : F_M_firstTouch_171 N rec27 (B + 85) x1 x2 x3 x5 x6 x7 (mkM h0 B D hi z s) = (G_M_firstTouch_171 N grec27 x1 x2 x3 x5 x6 x7 s).map (cvM h0 B D hi z) := by
  simp only [F_M_firstTouch_171, G_M_firstTouch_171, aim_100 h, aim_101 h, aim_102 h, aim_103 h, aim_104 h, aim_105 h, rdm_85_20 h, rdm_85_21 h, rdm_85_22 h, rdm_85_23 h, rdm_85_24 h, rdm_85_25 h, rdm_85_29 h, rdm_85_34 h, sg_M_breaksTo h, sg_M_isSo h, sg_M_longOf h, sG_M_firstTouch_186 h, sG_M_firstTouch_180 h hrec27, hrec27, Option.bind_some, Option.map_bind, Option.bind_map, Option.map_some, Option.map_none, Option.bind_none, apply_ite (Option.map _), if_true, Function.comp_def, cvM]
  all_goals rfl
def G_M_firstTouch_113 (N : Nat) (rec27 : Int32 → Int32 → mst → Option (Int32 × mst)) (x1 : Int32) (x2 : Int32) (x3 : Int32) (x4 : Int32) (x5 : Int32) (x6 : Int32) (x7 : Int32) (s : mst) : Option (Int32 × mst) :=
    (rdA s 105 60 x7).bind fun v7 =>
    (G_M_breaksTo N s x1 x2 v7).bind fun r9 =>
    if r9.1 = x5 then
    (if x4 = (-1) then
    G_M_firstTouch_171 N rec27 x1 x2 x3 x5 x6 x7 r9.2
    else
    (if x3 = 0 then
    ((rdA r9.2 105 60 x7).bind fun v11 =>
    if x4 ≤ v11 then
    G_M_firstTouch_180 N rec27 x1 x2 x3 x4 x5 x6 r9.2
    else
    G_M_firstTouch_171 N rec27 x1 x2 x3 x5 x6 x7 r9.2)
    else
    ((rdA r9.2 105 60 x7).bind fun v12 =>
    if v12 ≤ x4 then
    G_M_firstTouch_180 N rec27 x1 x2 x3 x4 x5 x6 r9.2
    else
    G_M_firstTouch_171 N rec27 x1 x2 x3 x5 x6 x7 r9.2)))
    else
    G_M_firstTouch_180 N rec27 x1 x2 x3 x4 x5 x6 r9.2
theorem sG_M_firstTouch_113 {h0 : Nat → pm_C} {B : Nat} {D : Nat → pd} {hi z N : Nat} (h : FX D hi) {rec27 : Int32 → Int32 → pm_S → Option (Int32 × pm_S)} {grec27 : Int32 → Int32 → mst → Option (Int32 × mst)} (hrec27 : ∀ (y1 : Int32) (y2 : Int32) (s : mst), rec27 y1 y2 (mkM h0 B D hi z s) = (grec27 y1 y2 s).map (cvM h0 B D hi z)) {x1 : Int32} {x2 : Int32} {x3 : Int32} {x4 : Int32} {x5 : Int32} {x6 : Int32} {x7 : Int32} {s : mst} : F_M_firstTouch_113 N rec27 (B + 85) x1 x2 x3 x4 x5 x6 x7 (mkM h0 B D hi z s) = (G_M_firstTouch_113 N grec27 x1 x2 x3 x4 x5 x6 x7 s).map (cvM h0 B D hi z) := by
  simp only [F_M_firstTouch_113, G_M_firstTouch_113, aim_100 h, aim_101 h, aim_102 h, aim_103 h, aim_104 h, aim_105 h, rdm_85_20 h, rdm_85_21 h, rdm_85_22 h, rdm_85_23 h, rdm_85_24 h, rdm_85_25 h, rdm_85_29 h, rdm_85_34 h, sg_M_breaksTo h, sg_M_isSo h, sg_M_longOf h, sG_M_firstTouch_186 h, sG_M_firstTouch_180 h hrec27, sG_M_firstTouch_171 h hrec27, hrec27, Option.bind_some, Option.map_bind, Option.bind_map, Option.map_some, Option.map_none, Option.bind_none, apply_ite (Option.map _), if_true, Function.comp_def, cvM]
  all_goals rfl
def GB_M_firstTouch_27 (N : Nat)  (rec27 : Int32 → Int32 → mst → Option (Int32 × mst)) (x1 : Int32) (x2 : Int32) (x3 : Int32) (x5 : Int32) (x4 : Int32) (x6 : Int32) (s : mst) : Option (Int32 × mst) :=
    (rdA s 100 7 (s.1 85 29)).bind fun v1 =>
    if v1 ≤ x6 then
    G_M_firstTouch_186 N x4 s
    else
    (if (s.1 85 34) = 0 then
    G_M_firstTouch_186 N x4 s
    else
    ((G_M_isSo N s x6).bind fun r3 =>
    if r3.1 = 0 then
    G_M_firstTouch_180 N rec27 x1 x2 x3 x4 x5 x6 r3.2
    else
    ((rdA r3.2 101 60 ((10 * (s.1 85 29)) + x6)).bind fun v4 =>
    if v4 = 2 then
    ((rdA r3.2 102 60 ((10 * (s.1 85 29)) + x6)).bind fun v5 =>
    if v5 = x1 then
    ((rdA r3.2 103 60 ((10 * (s.1 85 29)) + x6)).bind fun v6 =>
    if v6 = x2 then
    G_M_firstTouch_113 N rec27 x1 x2 x3 x4 x5 x6 ((10 * (s.1 85 29)) + x6) r3.2
    else
    ((rdA r3.2 104 60 ((10 * (s.1 85 29)) + x6)).bind fun v13 =>
    if v13 = x2 then
    G_M_firstTouch_113 N rec27 x1 x2 x3 x4 x5 x6 ((10 * (s.1 85 29)) + x6) r3.2
    else
    G_M_firstTouch_180 N rec27 x1 x2 x3 x4 x5 x6 r3.2))
    else
    G_M_firstTouch_180 N rec27 x1 x2 x3 x4 x5 x6 r3.2)
    else
    G_M_firstTouch_180 N rec27 x1 x2 x3 x4 x5 x6 r3.2)))
theorem sGB_M_firstTouch_27 {h0 : Nat → pm_C} {B : Nat} {D : Nat → pd} {hi z N : Nat} (h : FX D hi) {rec27 : Int32 → Int32 → pm_S → Option (Int32 × pm_S)} {grec27 : Int32 → Int32 → mst → Option (Int32 × mst)} (hrec27 : ∀ (y1 : Int32) (y2 : Int32) (s : mst), rec27 y1 y2 (mkM h0 B D hi z s) = (grec27 y1 y2 s).map (cvM h0 B D hi z)) {x1 : Int32} {x2 : Int32} {x3 : Int32} {x4 : Int32} {x5 : Int32} {x6 : Int32} {s : mst} : B_M_firstTouch_27 N rec27 (B + 85) x1 x2 x3 x5 x4 x6 (mkM h0 B D hi z s) = (GB_M_firstTouch_27 N grec27 x1 x2 x3 x5 x4 x6 s).map (cvM h0 B D hi z) := by
  simp only [B_M_firstTouch_27, GB_M_firstTouch_27, aim_100 h, aim_101 h, aim_102 h, aim_103 h, aim_104 h, aim_105 h, rdm_85_20 h, rdm_85_21 h, rdm_85_22 h, rdm_85_23 h, rdm_85_24 h, rdm_85_25 h, rdm_85_29 h, rdm_85_34 h, sg_M_breaksTo h, sg_M_isSo h, sg_M_longOf h, sG_M_firstTouch_186 h, sG_M_firstTouch_180 h hrec27, sG_M_firstTouch_171 h hrec27, sG_M_firstTouch_113 h hrec27, hrec27, Option.bind_some, Option.map_bind, Option.bind_map, Option.map_some, Option.map_none, Option.bind_none, apply_ite (Option.map _), if_true, Function.comp_def, cvM]
  all_goals rfl
def G_M_firstTouch_27 (N : Nat)  (x1 : Int32) (x2 : Int32) (x3 : Int32) (x5 : Int32) : Nat → Int32 → Int32 → mst → Option (Int32 × mst)
  | 0 => fun _ _ _ => none
  | n + 1 => fun x4 x6 s => GB_M_firstTouch_27 N  (G_M_firstTouch_27 N  x1 x2 x3 x5 n) x1 x2 x3 x5 x4 x6 s
theorem sG_M_firstTouch_27 {h0 : Nat → pm_C} {B : Nat} {D : Nat → pd} {hi z N : Nat} (h : FX D hi)   {x1 : Int32} {x2 : Int32} {x3 : Int32} {x5 : Int32} : ∀ (n : Nat) (x4 : Int32) (x6 : Int32) (s : mst), F_M_firstTouch_27 N  (B + 85) x1 x2 x3 x5 n x4 x6 (mkM h0 B D hi z s) = (G_M_firstTouch_27 N  x1 x2 x3 x5 n x4 x6 s).map (cvM h0 B D hi z) := by
  intro n
  induction n with
  | zero => intro x4 x6 s; rfl
  | succ n ih => intro x4 x6 s; exact sGB_M_firstTouch_27 h  ih
def G_M_firstTouch_22 (N : Nat)  (x1 : Int32) (x2 : Int32) (x3 : Int32) (x4 : Int32) (t0 : Int32) (s : mst) : Option (Int32 × mst) :=
    G_M_firstTouch_27 N x1 x2 x3 t0 N x4 0 s
theorem sG_M_firstTouch_22 {h0 : Nat → pm_C} {B : Nat} {D : Nat → pd} {hi z N : Nat} (h : FX D hi)   {x1 : Int32} {x2 : Int32} {x3 : Int32} {x4 : Int32} {t0 : Int32} {s : mst} : F_M_firstTouch_22 N  (B + 85) x1 x2 x3 x4 t0 (mkM h0 B D hi z s) = (G_M_firstTouch_22 N  x1 x2 x3 x4 t0 s).map (cvM h0 B D hi z) := by
  simp only [F_M_firstTouch_22, G_M_firstTouch_22, aim_100 h, aim_101 h, aim_102 h, aim_103 h, aim_104 h, aim_105 h, rdm_85_20 h, rdm_85_21 h, rdm_85_22 h, rdm_85_23 h, rdm_85_24 h, rdm_85_25 h, rdm_85_29 h, rdm_85_34 h, sg_M_breaksTo h, sg_M_isSo h, sg_M_longOf h, sG_M_firstTouch_186 h, sG_M_firstTouch_27 h, Option.bind_some, Option.map_bind, Option.bind_map, Option.map_some, Option.map_none, Option.bind_none, apply_ite (Option.map _), if_true, Function.comp_def, cvM]
  all_goals rfl
def G_M_firstTouch (N : Nat) (s : mst) (p0 : Int32) (p1 : Int32) (p2 : Int32) : Option (Int32 × mst) :=
    if p2 = 0 then
    G_M_firstTouch_22 N p0 p1 p2 (-1) 0 s
    else
    ((G_M_longOf N s p0).bind fun r15 =>
    (G_M_breaksTo N r15.2 p0 p1 r15.1).bind fun r17 =>
    G_M_firstTouch_22 N p0 p1 p2 (-1) r17.1 r17.2)
theorem sg_M_firstTouch {h0 : Nat → pm_C} {B : Nat} {D : Nat → pd} {hi z N : Nat} (h : FX D hi) {p0 : Int32} {p1 : Int32} {p2 : Int32} {s : mst} : F_M_firstTouch N (mkM h0 B D hi z s) (B + 85) p0 p1 p2 = (G_M_firstTouch N s p0 p1 p2).map (cvM h0 B D hi z) := by
  simp only [F_M_firstTouch, G_M_firstTouch, aim_100 h, aim_101 h, aim_102 h, aim_103 h, aim_104 h, aim_105 h, rdm_85_20 h, rdm_85_21 h, rdm_85_22 h, rdm_85_23 h, rdm_85_24 h, rdm_85_25 h, rdm_85_29 h, rdm_85_34 h, sg_M_breaksTo h, sg_M_isSo h, sg_M_longOf h, sG_M_firstTouch_186 h, sG_M_firstTouch_27 h, sG_M_firstTouch_22 h, rcm_85 h, Option.bind_some, Option.map_bind, Option.bind_map, Option.map_some, Option.map_none, Option.bind_none, apply_ite (Option.map _), if_true, Function.comp_def, cvM]
  all_goals rfl
def G_M_firstBreak_72 (N : Nat)   (s : mst) : Option (Int32 × mst) :=
    some ((-1), s)
theorem sG_M_firstBreak_72 {h0 : Nat → pm_C} {B : Nat} {D : Nat → pd} {hi z N : Nat} (h : FX D hi)    {s : mst} : F_M_firstBreak_72 N   (mkM h0 B D hi z s) = (G_M_firstBreak_72 N   s).map (cvM h0 B D hi z) := by
  simp only [F_M_firstBreak_72, G_M_firstBreak_72, sg_M_breaksTo h, sg_M_longOf h, Option.bind_some, Option.map_bind, Option.bind_map, Option.map_some, Option.map_none, Option.bind_none, apply_ite (Option.map _), if_true, Function.comp_def, cvM]
  all_goals rfl
def G_M_firstBreak_63 (N : Nat)  (x5 : Int32) (s : mst) : Option (Int32 × mst) :=
    some (x5, s)
theorem sG_M_firstBreak_63 {h0 : Nat → pm_C} {B : Nat} {D : Nat → pd} {hi z N : Nat} (h : FX D hi)   {x5 : Int32} {s : mst} : F_M_firstBreak_63 N  x5 (mkM h0 B D hi z s) = (G_M_firstBreak_63 N  x5 s).map (cvM h0 B D hi z) := by
  simp only [F_M_firstBreak_63, G_M_firstBreak_63, sg_M_breaksTo h, sg_M_longOf h, sG_M_firstBreak_72 h, Option.bind_some, Option.map_bind, Option.bind_map, Option.map_some, Option.map_none, Option.bind_none, apply_ite (Option.map _), if_true, Function.comp_def, cvM]
  all_goals rfl
def G_M_firstBreak_59 (N : Nat) (rec3 : Int32 → mst → Option (Int32 × mst)) (x1 : Int32) (x2 : Int32) (x3 : Int32) (x4 : Int32) (x5 : Int32) (t0 : Int32) (t1 : Int32) (s : mst) : Option (Int32 × mst) :=
    if (t1 - t0) ≤ 0 then
    rec3 (x4 + 1) s
    else
    G_M_firstBreak_63 N x5 s
theorem sG_M_firstBreak_59 {h0 : Nat → pm_C} {B : Nat} {D : Nat → pd} {hi z N : Nat} (h : FX D hi) {rec3 : Int32 → pm_S → Option (Int32 × pm_S)} {grec3 : Int32 → mst → Option (Int32 × mst)} (hrec3 : ∀ (y1 : Int32) (s : mst), rec3 y1 (mkM h0 B D hi z s) = (grec3 y1 s).map (cvM h0 B D hi z)) {x1 : Int32} {x2 : Int32} {x3 : Int32} {x4 : Int32} {x5 : Int32} {t0 : Int32} {t1 : Int32} {s : mst} : F_M_firstBreak_59 N rec3 (B + 85) x1 x2 x3 x4 x5 t0 t1 (mkM h0 B D hi z s) = (G_M_firstBreak_59 N grec3 x1 x2 x3 x4 x5 t0 t1 s).map (cvM h0 B D hi z) := by
  simp only [F_M_firstBreak_59, G_M_firstBreak_59, sg_M_breaksTo h, sg_M_longOf h, sG_M_firstBreak_72 h, sG_M_firstBreak_63 h, hrec3, Option.bind_some, Option.map_bind, Option.bind_map, Option.map_some, Option.map_none, Option.bind_none, apply_ite (Option.map _), if_true, Function.comp_def, cvM]
  all_goals rfl
def G_M_firstBreak_30 (N : Nat) (rec3 : Int32 → mst → Option (Int32 × mst)) (x1 : Int32) (x2 : Int32) (x3 : Int32) (x4 : Int32) (t0 : Int32) (s : mst) : Option (Int32 × mst) :=
    (G_M_breaksTo N s x1 x2 t0).bind fun r4 =>
    if t0 = 0 then
    G_M_firstBreak_59 N rec3 x1 x2 x3 x4 t0 0 r4.1 r4.2
    else
    ((G_M_breaksTo N r4.2 x1 x2 (t0 - 1)).bind fun r6 =>
    G_M_firstBreak_59 N rec3 x1 x2 x3 x4 t0 r6.1 r4.1 r6.2)
theorem sG_M_firstBreak_30 {h0 : Nat → pm_C} {B : Nat} {D : Nat → pd} {hi z N : Nat} (h : FX D hi) {rec3 : Int32 → pm_S → Option (Int32 × pm_S)} {grec3 : Int32 → mst → Option (Int32 × mst)} (hrec3 : ∀ (y1 : Int32) (s : mst), rec3 y1 (mkM h0 B D hi z s) = (grec3 y1 s).map (cvM h0 B D hi z)) {x1 : Int32} {x2 : Int32} {x3 : Int32} {x4 : Int32} {t0 : Int32} {s : mst} : F_M_firstBreak_30 N rec3 (B + 85) x1 x2 x3 x4 t0 (mkM h0 B D hi z s) = (G_M_firstBreak_30 N grec3 x1 x2 x3 x4 t0 s).map (cvM h0 B D hi z) := by
  simp only [F_M_firstBreak_30, G_M_firstBreak_30, sg_M_breaksTo h, sg_M_longOf h, sG_M_firstBreak_72 h, sG_M_firstBreak_63 h, sG_M_firstBreak_59 h hrec3, hrec3, Option.bind_some, Option.map_bind, Option.bind_map, Option.map_some, Option.map_none, Option.bind_none, apply_ite (Option.map _), if_true, Function.comp_def, cvM]
  all_goals rfl
def GB_M_firstBreak_3 (N : Nat)  (rec3 : Int32 → mst → Option (Int32 × mst)) (x1 : Int32) (x2 : Int32) (x3 : Int32) (x4 : Int32) (s : mst) : Option (Int32 × mst) :=
    (G_M_longOf N s x1).bind fun r2 =>
    if r2.1 < x4 then
    G_M_firstBreak_72 N r2.2
    else
    (if x3 = 0 then
    G_M_firstBreak_30 N rec3 x1 x2 x3 x4 x4 r2.2
    else
    ((G_M_longOf N r2.2 x1).bind fun r8 =>
    G_M_firstBreak_30 N rec3 x1 x2 x3 x4 (r8.1 - x4) r8.2))
theorem sGB_M_firstBreak_3 {h0 : Nat → pm_C} {B : Nat} {D : Nat → pd} {hi z N : Nat} (h : FX D hi) {rec3 : Int32 → pm_S → Option (Int32 × pm_S)} {grec3 : Int32 → mst → Option (Int32 × mst)} (hrec3 : ∀ (y1 : Int32) (s : mst), rec3 y1 (mkM h0 B D hi z s) = (grec3 y1 s).map (cvM h0 B D hi z)) {x1 : Int32} {x2 : Int32} {x3 : Int32} {x4 : Int32} {s : mst} : B_M_firstBreak_3 N rec3 (B + 85) x1 x2 x3 x4 (mkM h0 B D hi z s) = (GB_M_firstBreak_3 N grec3 x1 x2 x3 x4 s).map (cvM h0 B D hi z) := by
  simp only [B_M_firstBreak_3, GB_M_firstBreak_3, sg_M_breaksTo h, sg_M_longOf h, sG_M_firstBreak_72 h, sG_M_firstBreak_63 h, sG_M_firstBreak_59 h hrec3, sG_M_firstBreak_30 h hrec3, hrec3, Option.bind_some, Option.map_bind, Option.bind_map, Option.map_some, Option.map_none, Option.bind_none, apply_ite (Option.map _), if_true, Function.comp_def, cvM]
  all_goals rfl
def G_M_firstBreak_3 (N : Nat)  (x1 : Int32) (x2 : Int32) (x3 : Int32) : Nat → Int32 → mst → Option (Int32 × mst)
  | 0 => fun _ _ => none
  | n + 1 => fun x4 s => GB_M_firstBreak_3 N  (G_M_firstBreak_3 N  x1 x2 x3 n) x1 x2 x3 x4 s
theorem sG_M_firstBreak_3 {h0 : Nat → pm_C} {B : Nat} {D : Nat → pd} {hi z N : Nat} (h : FX D hi)   {x1 : Int32} {x2 : Int32} {x3 : Int32} : ∀ (n : Nat) (x4 : Int32) (s : mst), F_M_firstBreak_3 N  (B + 85) x1 x2 x3 n x4 (mkM h0 B D hi z s) = (G_M_firstBreak_3 N  x1 x2 x3 n x4 s).map (cvM h0 B D hi z) := by
  intro n
  induction n with
  | zero => intro x4 s; rfl
  | succ n ih => intro x4 s; exact sGB_M_firstBreak_3 h  ih
def G_M_firstBreak (N : Nat) (s : mst) (p0 : Int32) (p1 : Int32) (p2 : Int32) : Option (Int32 × mst) :=
    G_M_firstBreak_3 N p0 p1 p2 N 0 s
theorem sg_M_firstBreak {h0 : Nat → pm_C} {B : Nat} {D : Nat → pd} {hi z N : Nat} (h : FX D hi) {p0 : Int32} {p1 : Int32} {p2 : Int32} {s : mst} : F_M_firstBreak N (mkM h0 B D hi z s) (B + 85) p0 p1 p2 = (G_M_firstBreak N s p0 p1 p2).map (cvM h0 B D hi z) := by
  simp only [F_M_firstBreak, G_M_firstBreak, sg_M_breaksTo h, sg_M_longOf h, sG_M_firstBreak_72 h, sG_M_firstBreak_63 h, sG_M_firstBreak_3 h, rcm_85 h, Option.bind_some, Option.map_bind, Option.bind_map, Option.map_some, Option.map_none, Option.bind_none, apply_ite (Option.map _), if_true, Function.comp_def, cvM]
  all_goals rfl
def G_M_joinedAhead_31 (N : Nat)   (s : mst) : Option (Int32 × mst) :=
    some ((-1), s)
theorem sG_M_joinedAhead_31 {h0 : Nat → pm_C} {B : Nat} {D : Nat → pd} {hi z N : Nat} (h : FX D hi)    {s : mst} : F_M_joinedAhead_31 N   (mkM h0 B D hi z s) = (G_M_joinedAhead_31 N   s).map (cvM h0 B D hi z) := by
  simp only [F_M_joinedAhead_31, G_M_joinedAhead_31, aim_106 h, rdm_85_26 h, Option.bind_some, Option.map_bind, Option.bind_map, Option.map_some, Option.map_none, Option.bind_none, apply_ite (Option.map _), if_true, Function.comp_def, cvM]
  all_goals rfl
def G_M_joinedAhead_23 (N : Nat)  (x3 : Int32) (s : mst) : Option (Int32 × mst) :=
    some (x3, s)
theorem sG_M_joinedAhead_23 {h0 : Nat → pm_C} {B : Nat} {D : Nat → pd} {hi z N : Nat} (h : FX D hi)   {x3 : Int32} {s : mst} : F_M_joinedAhead_23 N  x3 (mkM h0 B D hi z s) = (G_M_joinedAhead_23 N  x3 s).map (cvM h0 B D hi z) := by
  simp only [F_M_joinedAhead_23, G_M_joinedAhead_23, aim_106 h, rdm_85_26 h, sG_M_joinedAhead_31 h, Option.bind_some, Option.map_bind, Option.bind_map, Option.map_some, Option.map_none, Option.bind_none, apply_ite (Option.map _), if_true, Function.comp_def, cvM]
  all_goals rfl
def GB_M_joinedAhead_2 (N : Nat)  (rec2 : Int32 → mst → Option (Int32 × mst)) (x1 : Int32) (x2 : Int32) (x3 : Int32) (s : mst) : Option (Int32 × mst) :=
    if 42 ≤ x3 then
    G_M_joinedAhead_31 N s
    else
    ((rdA s 106 42 x3).bind fun v1 =>
    if v1 = ((6 * x1) + x2) then
    G_M_joinedAhead_23 N x3 s
    else
    rec2 (x3 + 1) s)
theorem sGB_M_joinedAhead_2 {h0 : Nat → pm_C} {B : Nat} {D : Nat → pd} {hi z N : Nat} (h : FX D hi) {rec2 : Int32 → pm_S → Option (Int32 × pm_S)} {grec2 : Int32 → mst → Option (Int32 × mst)} (hrec2 : ∀ (y1 : Int32) (s : mst), rec2 y1 (mkM h0 B D hi z s) = (grec2 y1 s).map (cvM h0 B D hi z)) {x1 : Int32} {x2 : Int32} {x3 : Int32} {s : mst} : B_M_joinedAhead_2 N rec2 (B + 85) x1 x2 x3 (mkM h0 B D hi z s) = (GB_M_joinedAhead_2 N grec2 x1 x2 x3 s).map (cvM h0 B D hi z) := by
  simp only [B_M_joinedAhead_2, GB_M_joinedAhead_2, aim_106 h, rdm_85_26 h, sG_M_joinedAhead_31 h, sG_M_joinedAhead_23 h, hrec2, Option.bind_some, Option.map_bind, Option.bind_map, Option.map_some, Option.map_none, Option.bind_none, apply_ite (Option.map _), if_true, Function.comp_def, cvM]
  all_goals rfl
def G_M_joinedAhead_2 (N : Nat)  (x1 : Int32) (x2 : Int32) : Nat → Int32 → mst → Option (Int32 × mst)
  | 0 => fun _ _ => none
  | n + 1 => fun x3 s => GB_M_joinedAhead_2 N  (G_M_joinedAhead_2 N  x1 x2 n) x1 x2 x3 s
theorem sG_M_joinedAhead_2 {h0 : Nat → pm_C} {B : Nat} {D : Nat → pd} {hi z N : Nat} (h : FX D hi)   {x1 : Int32} {x2 : Int32} : ∀ (n : Nat) (x3 : Int32) (s : mst), F_M_joinedAhead_2 N  (B + 85) x1 x2 n x3 (mkM h0 B D hi z s) = (G_M_joinedAhead_2 N  x1 x2 n x3 s).map (cvM h0 B D hi z) := by
  intro n
  induction n with
  | zero => intro x3 s; rfl
  | succ n ih => intro x3 s; exact sGB_M_joinedAhead_2 h  ih
def G_M_joinedAhead (N : Nat) (s : mst) (p0 : Int32) (p1 : Int32) : Option (Int32 × mst) :=
    G_M_joinedAhead_2 N p0 p1 N 0 s
theorem sg_M_joinedAhead {h0 : Nat → pm_C} {B : Nat} {D : Nat → pd} {hi z N : Nat} (h : FX D hi) {p0 : Int32} {p1 : Int32} {s : mst} : F_M_joinedAhead N (mkM h0 B D hi z s) (B + 85) p0 p1 = (G_M_joinedAhead N s p0 p1).map (cvM h0 B D hi z) := by
  simp only [F_M_joinedAhead, G_M_joinedAhead, aim_106 h, rdm_85_26 h, sG_M_joinedAhead_31 h, sG_M_joinedAhead_23 h, sG_M_joinedAhead_2 h, rcm_85 h, Option.bind_some, Option.map_bind, Option.bind_map, Option.map_some, Option.map_none, Option.bind_none, apply_ite (Option.map _), if_true, Function.comp_def, cvM]
  all_goals rfl
def G_M_metresAt_192 (N : Nat)  (t0 : Int32) (t1 : Int32) (s : mst) : Option (Int32 × mst) :=
    some (t1 + t0, s)
theorem sG_M_metresAt_192 {h0 : Nat → pm_C} {B : Nat} {D : Nat → pd} {hi z N : Nat} (h : FX D hi)   {t0 : Int32} {t1 : Int32} {s : mst} : F_M_metresAt_192 N  t0 t1 (mkM h0 B D hi z s) = (G_M_metresAt_192 N  t0 t1 s).map (cvM h0 B D hi z) := by
  simp only [F_M_metresAt_192, G_M_metresAt_192, aim_106 h, aim_107 h, aim_108 h, rdm_85_26 h, rdm_85_27 h, rdm_85_28 h, sg_M_cameAs h, sg_M_firstBreak h, sg_M_firstTouch h, sg_M_joinedAhead h, sg_M_longOf h, Option.bind_some, Option.map_bind, Option.bind_map, Option.map_some, Option.map_none, Option.bind_none, apply_ite (Option.map _), if_true, Function.comp_def, cvM]
  all_goals rfl
def G_M_metresAt_191 (N : Nat)  (t0 : Int32) (s : mst) : Option (Int32 × mst) :=
    G_M_metresAt_192 N 0 t0 s
theorem sG_M_metresAt_191 {h0 : Nat → pm_C} {B : Nat} {D : Nat → pd} {hi z N : Nat} (h : FX D hi)   {t0 : Int32} {s : mst} : F_M_metresAt_191 N  t0 (mkM h0 B D hi z s) = (G_M_metresAt_191 N  t0 s).map (cvM h0 B D hi z) := by
  simp only [F_M_metresAt_191, G_M_metresAt_191, aim_106 h, aim_107 h, aim_108 h, rdm_85_26 h, rdm_85_27 h, rdm_85_28 h, sg_M_cameAs h, sg_M_firstBreak h, sg_M_firstTouch h, sg_M_joinedAhead h, sg_M_longOf h, sG_M_metresAt_192 h, Option.bind_some, Option.map_bind, Option.bind_map, Option.map_some, Option.map_none, Option.bind_none, apply_ite (Option.map _), if_true, Function.comp_def, cvM]
  all_goals rfl
def G_M_metresAt_168 (N : Nat)  (x3 : Int32) (x6 : Int32) (x9 : Int32) (s : mst) : Option (Int32 × mst) :=
    if x3 = 0 then
    ((rdA s 107 42 x9).bind fun v9 =>
    if v9 = (-1) then
    G_M_metresAt_191 N (4 * x6) s
    else
    G_M_metresAt_192 N 1 (4 * x6) s)
    else
    G_M_metresAt_191 N (4 * x6) s
theorem sG_M_metresAt_168 {h0 : Nat → pm_C} {B : Nat} {D : Nat → pd} {hi z N : Nat} (h : FX D hi)   {x3 : Int32} {x6 : Int32} {x9 : Int32} {s : mst} : F_M_metresAt_168 N  (B + 85) x3 x6 x9 (mkM h0 B D hi z s) = (G_M_metresAt_168 N  x3 x6 x9 s).map (cvM h0 B D hi z) := by
  simp only [F_M_metresAt_168, G_M_metresAt_168, aim_106 h, aim_107 h, aim_108 h, rdm_85_26 h, rdm_85_27 h, rdm_85_28 h, sg_M_cameAs h, sg_M_firstBreak h, sg_M_firstTouch h, sg_M_joinedAhead h, sg_M_longOf h, sG_M_metresAt_192 h, sG_M_metresAt_191 h, Option.bind_some, Option.map_bind, Option.bind_map, Option.map_some, Option.map_none, Option.bind_none, apply_ite (Option.map _), if_true, Function.comp_def, cvM]
  all_goals rfl
def G_M_metresAt_224 (N : Nat) (rec22 : Int32 → Int32 → Int32 → mst → Option (Int32 × mst)) (x3 : Int32) (x4 : Int32) (x6 : Int32) (t0 : Int32) (s : mst) : Option (Int32 × mst) :=
    rec22 x4 t0 x6 s
theorem sG_M_metresAt_224 {h0 : Nat → pm_C} {B : Nat} {D : Nat → pd} {hi z N : Nat} (h : FX D hi) {rec22 : Int32 → Int32 → Int32 → pm_S → Option (Int32 × pm_S)} {grec22 : Int32 → Int32 → Int32 → mst → Option (Int32 × mst)} (hrec22 : ∀ (y1 : Int32) (y2 : Int32) (y3 : Int32) (s : mst), rec22 y1 y2 y3 (mkM h0 B D hi z s) = (grec22 y1 y2 y3 s).map (cvM h0 B D hi z)) {x3 : Int32} {x4 : Int32} {x6 : Int32} {t0 : Int32} {s : mst} : F_M_metresAt_224 N rec22 (B + 85) x3 x4 x6 t0 (mkM h0 B D hi z s) = (G_M_metresAt_224 N grec22 x3 x4 x6 t0 s).map (cvM h0 B D hi z) := by
  simp only [F_M_metresAt_224, G_M_metresAt_224, aim_106 h, aim_107 h, aim_108 h, rdm_85_26 h, rdm_85_27 h, rdm_85_28 h, sg_M_cameAs h, sg_M_firstBreak h, sg_M_firstTouch h, sg_M_joinedAhead h, sg_M_longOf h, sG_M_metresAt_192 h, sG_M_metresAt_191 h, sG_M_metresAt_168 h, hrec22, Option.bind_some, Option.map_bind, Option.bind_map, Option.map_some, Option.map_none, Option.bind_none, apply_ite (Option.map _), if_true, Function.comp_def, cvM]
  all_goals rfl
def G_M_metresAt_160 (N : Nat) (rec22 : Int32 → Int32 → Int32 → mst → Option (Int32 × mst)) (x3 : Int32) (x6 : Int32) (x9 : Int32) (t0 : Int32) (s : mst) : Option (Int32 × mst) :=
    if t0 = (-1) then
    G_M_metresAt_168 N x3 x6 x9 s
    else
    (if x3 = 0 then
    G_M_metresAt_224 N rec22 x3 (t0 / 6) x6 (t0 - t0 / 6 * 6) s
    else
    ((G_M_cameAs N s (t0 / 6) (t0 - t0 / 6 * 6)).bind fun r11 =>
    G_M_metresAt_224 N rec22 x3 (t0 / 6) x6 r11.1 r11.2))
theorem sG_M_metresAt_160 {h0 : Nat → pm_C} {B : Nat} {D : Nat → pd} {hi z N : Nat} (h : FX D hi) {rec22 : Int32 → Int32 → Int32 → pm_S → Option (Int32 × pm_S)} {grec22 : Int32 → Int32 → Int32 → mst → Option (Int32 × mst)} (hrec22 : ∀ (y1 : Int32) (y2 : Int32) (y3 : Int32) (s : mst), rec22 y1 y2 y3 (mkM h0 B D hi z s) = (grec22 y1 y2 y3 s).map (cvM h0 B D hi z)) {x3 : Int32} {x6 : Int32} {x9 : Int32} {t0 : Int32} {s : mst} : F_M_metresAt_160 N rec22 (B + 85) x3 x6 x9 t0 (mkM h0 B D hi z s) = (G_M_metresAt_160 N grec22 x3 x6 x9 t0 s).map (cvM h0 B D hi z) := by
  simp only [F_M_metresAt_160, G_M_metresAt_160, aim_106 h, aim_107 h, aim_108 h, rdm_85_26 h, rdm_85_27 h, rdm_85_28 h, sg_M_cameAs h, sg_M_firstBreak h, sg_M_firstTouch h, sg_M_joinedAhead h, sg_M_longOf h, sG_M_metresAt_192 h, sG_M_metresAt_191 h, sG_M_metresAt_168 h, sG_M_metresAt_224 h hrec22, hrec22, Option.bind_some, Option.map_bind, Option.bind_map, Option.map_some, Option.map_none, Option.bind_none, apply_ite (Option.map _), if_true, Function.comp_def, cvM]
  all_goals rfl
def G_M_metresAt_103 (N : Nat)  (t0 : Int32) (t1 : Int32) (t2 : Int32) (s : mst) : Option (Int32 × mst) :=
    some (t2 * (t1 + t0), s)
theorem sG_M_metresAt_103 {h0 : Nat → pm_C} {B : Nat} {D : Nat → pd} {hi z N : Nat} (h : FX D hi)   {t0 : Int32} {t1 : Int32} {t2 : Int32} {s : mst} : F_M_metresAt_103 N  t0 t1 t2 (mkM h0 B D hi z s) = (G_M_metresAt_103 N  t0 t1 t2 s).map (cvM h0 B D hi z) := by
  simp only [F_M_metresAt_103, G_M_metresAt_103, aim_106 h, aim_107 h, aim_108 h, rdm_85_26 h, rdm_85_27 h, rdm_85_28 h, sg_M_cameAs h, sg_M_firstBreak h, sg_M_firstTouch h, sg_M_joinedAhead h, sg_M_longOf h, sG_M_metresAt_192 h, sG_M_metresAt_191 h, sG_M_metresAt_168 h, Option.bind_some, Option.map_bind, Option.bind_map, Option.map_some, Option.map_none, Option.bind_none, apply_ite (Option.map _), if_true, Function.comp_def, cvM]
  all_goals rfl
def G_M_metresAt_82 (N : Nat)  (x3 : Int32) (x4 : Int32) (x6 : Int32) (x8 : Int32) (s : mst) : Option (Int32 × mst) :=
    if x3 = 0 then
    G_M_metresAt_103 N x8 x6 4 s
    else
    ((G_M_longOf N s x4).bind fun r15 =>
    G_M_metresAt_103 N (r15.1 - x8) x6 4 r15.2)
theorem sG_M_metresAt_82 {h0 : Nat → pm_C} {B : Nat} {D : Nat → pd} {hi z N : Nat} (h : FX D hi)   {x3 : Int32} {x4 : Int32} {x6 : Int32} {x8 : Int32} {s : mst} : F_M_metresAt_82 N  (B + 85) x3 x4 x6 x8 (mkM h0 B D hi z s) = (G_M_metresAt_82 N  x3 x4 x6 x8 s).map (cvM h0 B D hi z) := by
  simp only [F_M_metresAt_82, G_M_metresAt_82, aim_106 h, aim_107 h, aim_108 h, rdm_85_26 h, rdm_85_27 h, rdm_85_28 h, sg_M_cameAs h, sg_M_firstBreak h, sg_M_firstTouch h, sg_M_joinedAhead h, sg_M_longOf h, sG_M_metresAt_192 h, sG_M_metresAt_191 h, sG_M_metresAt_168 h, sG_M_metresAt_103 h, Option.bind_some, Option.map_bind, Option.bind_map, Option.map_some, Option.map_none, Option.bind_none, apply_ite (Option.map _), if_true, Function.comp_def, cvM]
  all_goals rfl
def G_M_metresAt_60 (N : Nat)  (t0 : Int32) (t1 : Int32) (t2 : Int32) (s : mst) : Option (Int32 × mst) :=
    some ((t2 * (t1 + t0)) + 2, s)
theorem sG_M_metresAt_60 {h0 : Nat → pm_C} {B : Nat} {D : Nat → pd} {hi z N : Nat} (h : FX D hi)   {t0 : Int32} {t1 : Int32} {t2 : Int32} {s : mst} : F_M_metresAt_60 N  t0 t1 t2 (mkM h0 B D hi z s) = (G_M_metresAt_60 N  t0 t1 t2 s).map (cvM h0 B D hi z) := by
  simp only [F_M_metresAt_60, G_M_metresAt_60, aim_106 h, aim_107 h, aim_108 h, rdm_85_26 h, rdm_85_27 h, rdm_85_28 h, sg_M_cameAs h, sg_M_firstBreak h, sg_M_firstTouch h, sg_M_joinedAhead h, sg_M_longOf h, sG_M_metresAt_192 h, sG_M_metresAt_191 h, sG_M_metresAt_168 h, sG_M_metresAt_103 h, sG_M_metresAt_82 h, Option.bind_some, Option.map_bind, Option.bind_map, Option.map_some, Option.map_none, Option.bind_none, apply_ite (Option.map _), if_true, Function.comp_def, cvM]
  all_goals rfl
def G_M_metresAt_39 (N : Nat)  (x3 : Int32) (x4 : Int32) (x6 : Int32) (x7 : Int32) (s : mst) : Option (Int32 × mst) :=
    if x3 = 0 then
    G_M_metresAt_60 N x7 x6 4 s
    else
    ((G_M_longOf N s x4).bind fun r17 =>
    G_M_metresAt_60 N (r17.1 - x7) x6 4 r17.2)
theorem sG_M_metresAt_39 {h0 : Nat → pm_C} {B : Nat} {D : Nat → pd} {hi z N : Nat} (h : FX D hi)   {x3 : Int32} {x4 : Int32} {x6 : Int32} {x7 : Int32} {s : mst} : F_M_metresAt_39 N  (B + 85) x3 x4 x6 x7 (mkM h0 B D hi z s) = (G_M_metresAt_39 N  x3 x4 x6 x7 s).map (cvM h0 B D hi z) := by
  simp only [F_M_metresAt_39, G_M_metresAt_39, aim_106 h, aim_107 h, aim_108 h, rdm_85_26 h, rdm_85_27 h, rdm_85_28 h, sg_M_cameAs h, sg_M_firstBreak h, sg_M_firstTouch h, sg_M_joinedAhead h, sg_M_longOf h, sG_M_metresAt_192 h, sG_M_metresAt_191 h, sG_M_metresAt_168 h, sG_M_metresAt_103 h, sG_M_metresAt_82 h, sG_M_metresAt_60 h, Option.bind_some, Option.map_bind, Option.bind_map, Option.map_some, Option.map_none, Option.bind_none, apply_ite (Option.map _), if_true, Function.comp_def, cvM]
  all_goals rfl
def GB_M_metresAt_22 (N : Nat)  (rec22 : Int32 → Int32 → Int32 → mst → Option (Int32 × mst)) (x3 : Int32) (x4 : Int32) (x5 : Int32) (x6 : Int32) (s : mst) : Option (Int32 × mst) :=
    (G_M_firstTouch N s x4 x5 x3).bind fun r2 =>
    if r2.1 = (-1) then
    ((G_M_firstBreak N r2.2 x4 x5 x3).bind fun r4 =>
    if r4.1 = (-1) then
    ((G_M_longOf N r4.2 x4).bind fun r6 =>
    (rdA r6.2 108 42 ((6 * x4) + x5)).bind fun v7 =>
    if x3 = 0 then
    ((rdA r6.2 106 42 ((6 * x4) + v7)).bind fun v8 =>
    G_M_metresAt_160 N rec22 x3 (x6 + r6.1) ((6 * x4) + v7) v8 r6.2)
    else
    ((G_M_joinedAhead N r6.2 x4 x5).bind fun r13 =>
    G_M_metresAt_160 N rec22 x3 (x6 + r6.1) ((6 * x4) + v7) r13.1 r13.2))
    else
    G_M_metresAt_82 N x3 x4 x6 r4.1 r4.2)
    else
    G_M_metresAt_39 N x3 x4 x6 r2.1 r2.2
theorem sGB_M_metresAt_22 {h0 : Nat → pm_C} {B : Nat} {D : Nat → pd} {hi z N : Nat} (h : FX D hi) {rec22 : Int32 → Int32 → Int32 → pm_S → Option (Int32 × pm_S)} {grec22 : Int32 → Int32 → Int32 → mst → Option (Int32 × mst)} (hrec22 : ∀ (y1 : Int32) (y2 : Int32) (y3 : Int32) (s : mst), rec22 y1 y2 y3 (mkM h0 B D hi z s) = (grec22 y1 y2 y3 s).map (cvM h0 B D hi z)) {x3 : Int32} {x4 : Int32} {x5 : Int32} {x6 : Int32} {s : mst} : B_M_metresAt_22 N rec22 (B + 85) x3 x4 x5 x6 (mkM h0 B D hi z s) = (GB_M_metresAt_22 N grec22 x3 x4 x5 x6 s).map (cvM h0 B D hi z) := by
  simp only [B_M_metresAt_22, GB_M_metresAt_22, aim_106 h, aim_107 h, aim_108 h, rdm_85_26 h, rdm_85_27 h, rdm_85_28 h, sg_M_cameAs h, sg_M_firstBreak h, sg_M_firstTouch h, sg_M_joinedAhead h, sg_M_longOf h, sG_M_metresAt_192 h, sG_M_metresAt_191 h, sG_M_metresAt_168 h, sG_M_metresAt_224 h hrec22, sG_M_metresAt_160 h hrec22, sG_M_metresAt_103 h, sG_M_metresAt_82 h, sG_M_metresAt_60 h, sG_M_metresAt_39 h, hrec22, Option.bind_some, Option.map_bind, Option.bind_map, Option.map_some, Option.map_none, Option.bind_none, apply_ite (Option.map _), if_true, Function.comp_def, cvM]
  all_goals rfl
def G_M_metresAt_22 (N : Nat)  (x3 : Int32) : Nat → Int32 → Int32 → Int32 → mst → Option (Int32 × mst)
  | 0 => fun _ _ _ _ => none
  | n + 1 => fun x4 x5 x6 s => GB_M_metresAt_22 N  (G_M_metresAt_22 N  x3 n) x3 x4 x5 x6 s
theorem sG_M_metresAt_22 {h0 : Nat → pm_C} {B : Nat} {D : Nat → pd} {hi z N : Nat} (h : FX D hi)   {x3 : Int32} : ∀ (n : Nat) (x4 : Int32) (x5 : Int32) (x6 : Int32) (s : mst), F_M_metresAt_22 N  (B + 85) x3 n x4 x5 x6 (mkM h0 B D hi z s) = (G_M_metresAt_22 N  x3 n x4 x5 x6 s).map (cvM h0 B D hi z) := by
  intro n
  induction n with
  | zero => intro x4 x5 x6 s; rfl
  | succ n ih => intro x4 x5 x6 s; exact sGB_M_metresAt_22 h  ih
def G_M_metresAt_17 (N : Nat)  (x3 : Int32) (x4 : Int32) (t0 : Int32) (s : mst) : Option (Int32 × mst) :=
    G_M_metresAt_22 N x3 N x4 t0 0 s
theorem sG_M_metresAt_17 {h0 : Nat → pm_C} {B : Nat} {D : Nat → pd} {hi z N : Nat} (h : FX D hi)   {x3 : Int32} {x4 : Int32} {t0 : Int32} {s : mst} : F_M_metresAt_17 N  (B + 85) x3 x4 t0 (mkM h0 B D hi z s) = (G_M_metresAt_17 N  x3 x4 t0 s).map (cvM h0 B D hi z) := by
  simp only [F_M_metresAt_17, G_M_metresAt_17, aim_106 h, aim_107 h, aim_108 h, rdm_85_26 h, rdm_85_27 h, rdm_85_28 h, sg_M_cameAs h, sg_M_firstBreak h, sg_M_firstTouch h, sg_M_joinedAhead h, sg_M_longOf h, sG_M_metresAt_192 h, sG_M_metresAt_191 h, sG_M_metresAt_168 h, sG_M_metresAt_103 h, sG_M_metresAt_82 h, sG_M_metresAt_60 h, sG_M_metresAt_39 h, sG_M_metresAt_22 h, Option.bind_some, Option.map_bind, Option.bind_map, Option.map_some, Option.map_none, Option.bind_none, apply_ite (Option.map _), if_true, Function.comp_def, cvM]
  all_goals rfl
def G_M_metresAt (N : Nat) (s : mst) (p0 : Int32) (p1 : Int32) (p2 : Int32) : Option (Int32 × mst) :=
    if p2 = 0 then
    G_M_metresAt_17 N p2 p0 p1 s
    else
    ((G_M_cameAs N s p0 p1).bind fun r19 =>
    G_M_metresAt_17 N p2 p0 r19.1 r19.2)
theorem sg_M_metresAt {h0 : Nat → pm_C} {B : Nat} {D : Nat → pd} {hi z N : Nat} (h : FX D hi) {p0 : Int32} {p1 : Int32} {p2 : Int32} {s : mst} : F_M_metresAt N (mkM h0 B D hi z s) (B + 85) p0 p1 p2 = (G_M_metresAt N s p0 p1 p2).map (cvM h0 B D hi z) := by
  simp only [F_M_metresAt, G_M_metresAt, aim_106 h, aim_107 h, aim_108 h, rdm_85_26 h, rdm_85_27 h, rdm_85_28 h, sg_M_cameAs h, sg_M_firstBreak h, sg_M_firstTouch h, sg_M_joinedAhead h, sg_M_longOf h, sG_M_metresAt_192 h, sG_M_metresAt_191 h, sG_M_metresAt_168 h, sG_M_metresAt_103 h, sG_M_metresAt_82 h, sG_M_metresAt_60 h, sG_M_metresAt_39 h, sG_M_metresAt_22 h, sG_M_metresAt_17 h, rcm_85 h, Option.bind_some, Option.map_bind, Option.bind_map, Option.map_some, Option.map_none, Option.bind_none, apply_ite (Option.map _), if_true, Function.comp_def, cvM]
  all_goals rfl
def G_M_metres_34 (N : Nat)   (s : mst) : Option (Int32 × mst) :=
    some ((-1), s)
theorem sG_M_metres_34 {h0 : Nat → pm_C} {B : Nat} {D : Nat → pd} {hi z N : Nat} (h : FX D hi)    {s : mst} : F_M_metres_34 N   (mkM h0 B D hi z s) = (G_M_metres_34 N   s).map (cvM h0 B D hi z) := by
  simp only [F_M_metres_34, G_M_metres_34, sg_M_isEnd h, sg_M_isPair h, sg_M_isWorld h, sg_M_lay h, sg_M_metresAt h, wrm_85_0 h, Option.bind_some, Option.map_bind, Option.bind_map, Option.map_some, Option.map_none, Option.bind_none, apply_ite (Option.map _), if_true, Function.comp_def, cvM]
  all_goals rfl
def G_M_metres (N : Nat) (s : mst) (p0 : Int32) (p1 : Int32) (p2 : Int32) (p3 : Int32) (p4 : Int32) (p5 : Int32) : Option (Int32 × mst) :=
    (G_M_isWorld N (wrI s 85 0 0) p0 p1).bind fun r2 =>
    if r2.1 = 0 then
    G_M_metres_34 N r2.2
    else
    ((G_M_isPair N r2.2 p0 p3 p4).bind fun r4 =>
    if r4.1 = 0 then
    G_M_metres_34 N r4.2
    else
    ((G_M_isEnd N r4.2 p5).bind fun r6 =>
    if r6.1 = 0 then
    G_M_metres_34 N r6.2
    else
    ((G_M_lay N r6.2 p0 p1 p2).bind fun s7 =>
    (G_M_metresAt N s7 p3 p4 p5).bind fun r9 =>
    some (r9.1, r9.2))))
theorem sg_M_metres {h0 : Nat → pm_C} {B : Nat} {D : Nat → pd} {hi z N : Nat} (h : FX D hi) {p0 : Int32} {p1 : Int32} {p2 : Int32} {p3 : Int32} {p4 : Int32} {p5 : Int32} {s : mst} : F_M_metres N (mkM h0 B D hi z s) (B + 85) p0 p1 p2 p3 p4 p5 = (G_M_metres N s p0 p1 p2 p3 p4 p5).map (cvM h0 B D hi z) := by
  simp only [F_M_metres, G_M_metres, sg_M_isEnd h, sg_M_isPair h, sg_M_isWorld h, sg_M_lay h, sg_M_metresAt h, wrm_85_0 h, sG_M_metres_34 h, rcm_85 h, Option.bind_some, Option.map_bind, Option.bind_map, Option.map_some, Option.map_none, Option.bind_none, apply_ite (Option.map _), if_true, Function.comp_def, cvM]
  all_goals rfl
def G_M_joint_61 (N : Nat)  (t0 : Int32) (s : mst) : Option (Int32 × mst) :=
    some (t0, s)
theorem sG_M_joint_61 {h0 : Nat → pm_C} {B : Nat} {D : Nat → pd} {hi z N : Nat} (h : FX D hi)   {t0 : Int32} {s : mst} : F_M_joint_61 N  t0 (mkM h0 B D hi z s) = (G_M_joint_61 N  t0 s).map (cvM h0 B D hi z) := by
  simp only [F_M_joint_61, G_M_joint_61, aim_106 h, rdm_85_26 h, sg_M_isPair h, sg_M_lay h, wrm_85_0 h, Option.bind_some, Option.map_bind, Option.bind_map, Option.map_some, Option.map_none, Option.bind_none, apply_ite (Option.map _), if_true, Function.comp_def, cvM]
  all_goals rfl
def G_M_joint (N : Nat) (s : mst) (p0 : Int32) (p1 : Int32) (p2 : Int32) : Option (Int32 × mst) :=
    (G_M_isPair N (wrI s 85 0 0) p0 p1 p2).bind fun r2 =>
    if r2.1 = 0 then
    some ((-1), r2.2)
    else
    ((G_M_lay N r2.2 p0 0 0).bind fun s3 =>
    (rdA s3 106 42 ((6 * p1) + p2)).bind fun v4 =>
    if v4 = (-1) then
    G_M_joint_61 N (-1) s3
    else
    G_M_joint_61 N ((8 * (v4 / 6)) + (v4 - v4 / 6 * 6)) s3)
theorem sg_M_joint {h0 : Nat → pm_C} {B : Nat} {D : Nat → pd} {hi z N : Nat} (h : FX D hi) {p0 : Int32} {p1 : Int32} {p2 : Int32} {s : mst} : F_M_joint N (mkM h0 B D hi z s) (B + 85) p0 p1 p2 = (G_M_joint N s p0 p1 p2).map (cvM h0 B D hi z) := by
  simp only [F_M_joint, G_M_joint, aim_106 h, rdm_85_26 h, sg_M_isPair h, sg_M_lay h, wrm_85_0 h, sG_M_joint_61 h, rcm_85 h, Option.bind_some, Option.map_bind, Option.bind_map, Option.map_some, Option.map_none, Option.bind_none, apply_ite (Option.map _), if_true, Function.comp_def, cvM]
  all_goals rfl
def G_M_isNumberOfHouse (N : Nat) (s : mst) (p0 : Int32) : Option (Int32 × mst) :=
    (G_M_isIn N s p0 0 9).bind fun r2 =>
    if r2.1 = 0 ∨ r2.1 = 1 then some (r2.1, r2.2) else none
theorem sg_M_isNumberOfHouse {h0 : Nat → pm_C} {B : Nat} {D : Nat → pd} {hi z N : Nat} (h : FX D hi) {p0 : Int32} {s : mst} : F_M_isNumberOfHouse N (mkM h0 B D hi z s)  p0 = (G_M_isNumberOfHouse N s p0).map (cvM h0 B D hi z) := by
  simp only [F_M_isNumberOfHouse, G_M_isNumberOfHouse, sg_M_isIn h, Option.bind_some, Option.map_bind, Option.bind_map, Option.map_some, Option.map_none, Option.bind_none, apply_ite (Option.map _), if_true, Function.comp_def, cvM]
  all_goals rfl
def G_M_hangsAt_26 (N : Nat)   (s : mst) : Option (Int32 × mst) :=
    some ((-1), s)
theorem sG_M_hangsAt_26 {h0 : Nat → pm_C} {B : Nat} {D : Nat → pd} {hi z N : Nat} (h : FX D hi)    {s : mst} : F_M_hangsAt_26 N   (mkM h0 B D hi z s) = (G_M_hangsAt_26 N   s).map (cvM h0 B D hi z) := by
  simp only [F_M_hangsAt_26, G_M_hangsAt_26, aim_107 h, rdm_85_27 h, Option.bind_some, Option.map_bind, Option.bind_map, Option.map_some, Option.map_none, Option.bind_none, apply_ite (Option.map _), if_true, Function.comp_def, cvM]
  all_goals rfl
def G_M_hangsAt_18 (N : Nat)  (x2 : Int32) (s : mst) : Option (Int32 × mst) :=
    some (x2, s)
theorem sG_M_hangsAt_18 {h0 : Nat → pm_C} {B : Nat} {D : Nat → pd} {hi z N : Nat} (h : FX D hi)   {x2 : Int32} {s : mst} : F_M_hangsAt_18 N  x2 (mkM h0 B D hi z s) = (G_M_hangsAt_18 N  x2 s).map (cvM h0 B D hi z) := by
  simp only [F_M_hangsAt_18, G_M_hangsAt_18, aim_107 h, rdm_85_27 h, sG_M_hangsAt_26 h, Option.bind_some, Option.map_bind, Option.bind_map, Option.map_some, Option.map_none, Option.bind_none, apply_ite (Option.map _), if_true, Function.comp_def, cvM]
  all_goals rfl
def GB_M_hangsAt_2 (N : Nat)  (rec2 : Int32 → mst → Option (Int32 × mst)) (x1 : Int32) (x2 : Int32) (s : mst) : Option (Int32 × mst) :=
    if 42 ≤ x2 then
    G_M_hangsAt_26 N s
    else
    ((rdA s 107 42 x2).bind fun v1 =>
    if v1 = x1 then
    G_M_hangsAt_18 N x2 s
    else
    rec2 (x2 + 1) s)
theorem sGB_M_hangsAt_2 {h0 : Nat → pm_C} {B : Nat} {D : Nat → pd} {hi z N : Nat} (h : FX D hi) {rec2 : Int32 → pm_S → Option (Int32 × pm_S)} {grec2 : Int32 → mst → Option (Int32 × mst)} (hrec2 : ∀ (y1 : Int32) (s : mst), rec2 y1 (mkM h0 B D hi z s) = (grec2 y1 s).map (cvM h0 B D hi z)) {x1 : Int32} {x2 : Int32} {s : mst} : B_M_hangsAt_2 N rec2 (B + 85) x1 x2 (mkM h0 B D hi z s) = (GB_M_hangsAt_2 N grec2 x1 x2 s).map (cvM h0 B D hi z) := by
  simp only [B_M_hangsAt_2, GB_M_hangsAt_2, aim_107 h, rdm_85_27 h, sG_M_hangsAt_26 h, sG_M_hangsAt_18 h, hrec2, Option.bind_some, Option.map_bind, Option.bind_map, Option.map_some, Option.map_none, Option.bind_none, apply_ite (Option.map _), if_true, Function.comp_def, cvM]
  all_goals rfl
def G_M_hangsAt_2 (N : Nat)  (x1 : Int32) : Nat → Int32 → mst → Option (Int32 × mst)
  | 0 => fun _ _ => none
  | n + 1 => fun x2 s => GB_M_hangsAt_2 N  (G_M_hangsAt_2 N  x1 n) x1 x2 s
theorem sG_M_hangsAt_2 {h0 : Nat → pm_C} {B : Nat} {D : Nat → pd} {hi z N : Nat} (h : FX D hi)   {x1 : Int32} : ∀ (n : Nat) (x2 : Int32) (s : mst), F_M_hangsAt_2 N  (B + 85) x1 n x2 (mkM h0 B D hi z s) = (G_M_hangsAt_2 N  x1 n x2 s).map (cvM h0 B D hi z) := by
  intro n
  induction n with
  | zero => intro x2 s; rfl
  | succ n ih => intro x2 s; exact sGB_M_hangsAt_2 h  ih
def G_M_hangsAt (N : Nat) (s : mst) (p0 : Int32) : Option (Int32 × mst) :=
    G_M_hangsAt_2 N p0 N 0 s
theorem sg_M_hangsAt {h0 : Nat → pm_C} {B : Nat} {D : Nat → pd} {hi z N : Nat} (h : FX D hi) {p0 : Int32} {s : mst} : F_M_hangsAt N (mkM h0 B D hi z s) (B + 85) p0 = (G_M_hangsAt N s p0).map (cvM h0 B D hi z) := by
  simp only [F_M_hangsAt, G_M_hangsAt, aim_107 h, rdm_85_27 h, sG_M_hangsAt_26 h, sG_M_hangsAt_18 h, sG_M_hangsAt_2 h, rcm_85 h, Option.bind_some, Option.map_bind, Option.bind_map, Option.map_some, Option.map_none, Option.bind_none, apply_ite (Option.map _), if_true, Function.comp_def, cvM]
  all_goals rfl
def G_M_house_20 (N : Nat)   (s : mst) : Option (Int32 × mst) :=
    some ((-1), s)
theorem sG_M_house_20 {h0 : Nat → pm_C} {B : Nat} {D : Nat → pd} {hi z N : Nat} (h : FX D hi)    {s : mst} : F_M_house_20 N   (mkM h0 B D hi z s) = (G_M_house_20 N   s).map (cvM h0 B D hi z) := by
  simp only [F_M_house_20, G_M_house_20, sg_M_hangsAt h, sg_M_isNumberOfHouse h, sg_M_isPlan h, sg_M_lay h, wrm_85_0 h, Option.bind_some, Option.map_bind, Option.bind_map, Option.map_some, Option.map_none, Option.bind_none, apply_ite (Option.map _), if_true, Function.comp_def, cvM]
  all_goals rfl
def G_M_house_56 (N : Nat)  (t0 : Int32) (s : mst) : Option (Int32 × mst) :=
    some (t0, s)
theorem sG_M_house_56 {h0 : Nat → pm_C} {B : Nat} {D : Nat → pd} {hi z N : Nat} (h : FX D hi)   {t0 : Int32} {s : mst} : F_M_house_56 N  t0 (mkM h0 B D hi z s) = (G_M_house_56 N  t0 s).map (cvM h0 B D hi z) := by
  simp only [F_M_house_56, G_M_house_56, sg_M_hangsAt h, sg_M_isNumberOfHouse h, sg_M_isPlan h, sg_M_lay h, wrm_85_0 h, sG_M_house_20 h, Option.bind_some, Option.map_bind, Option.bind_map, Option.map_some, Option.map_none, Option.bind_none, apply_ite (Option.map _), if_true, Function.comp_def, cvM]
  all_goals rfl
def G_M_house (N : Nat) (s : mst) (p0 : Int32) (p1 : Int32) : Option (Int32 × mst) :=
    (G_M_isPlan N (wrI s 85 0 0) p0).bind fun r2 =>
    if r2.1 = 0 then
    G_M_house_20 N r2.2
    else
    ((G_M_isNumberOfHouse N r2.2 p1).bind fun r4 =>
    if r4.1 = 0 then
    G_M_house_20 N r4.2
    else
    ((G_M_lay N r4.2 p0 0 0).bind fun s5 =>
    (G_M_hangsAt N s5 p1).bind fun r7 =>
    if r7.1 = (-1) then
    G_M_house_56 N (-1) r7.2
    else
    G_M_house_56 N ((8 * (r7.1 / 6)) + (r7.1 - r7.1 / 6 * 6)) r7.2))
theorem sg_M_house {h0 : Nat → pm_C} {B : Nat} {D : Nat → pd} {hi z N : Nat} (h : FX D hi) {p0 : Int32} {p1 : Int32} {s : mst} : F_M_house N (mkM h0 B D hi z s) (B + 85) p0 p1 = (G_M_house N s p0 p1).map (cvM h0 B D hi z) := by
  simp only [F_M_house, G_M_house, sg_M_hangsAt h, sg_M_isNumberOfHouse h, sg_M_isPlan h, sg_M_lay h, wrm_85_0 h, sG_M_house_20 h, sG_M_house_56 h, rcm_85 h, Option.bind_some, Option.map_bind, Option.bind_map, Option.map_some, Option.map_none, Option.bind_none, apply_ite (Option.map _), if_true, Function.comp_def, cvM]
  all_goals rfl
def G_M_feeds_118 (N : Nat)  (x3 : Int64) (s : mst) : Option (Int64 × mst) :=
    some (x3, s)
theorem sG_M_feeds_118 {h0 : Nat → pm_C} {B : Nat} {D : Nat → pd} {hi z N : Nat} (h : FX D hi)   {x3 : Int64} {s : mst} : F_M_feeds_118 N  x3 (mkM h0 B D hi z s) = (G_M_feeds_118 N  x3 s).map (cvM h0 B D hi z) := by
  simp only [F_M_feeds_118, G_M_feeds_118, aim_109 h, aim_88 h, aim_89 h, aim_91 h, rdm_85_10 h, rdm_85_29 h, rdm_85_35 h, rdm_85_7 h, rdm_85_8 h, sg_M_farNode h, sg_M_nearNode h, sg_M_sound h, Option.bind_some, Option.map_bind, Option.bind_map, Option.map_some, Option.map_none, Option.bind_none, apply_ite (Option.map _), if_true, Function.comp_def, cvM]
  all_goals rfl
def G_M_feeds_112 (N : Nat) (rec18 : Int64 → Int32 → Int32 → mst → Option (Int64 × mst)) (x3 : Int64) (x5 : Int32) (x6 : Int32) (s : mst) : Option (Int64 × mst) :=
    rec18 x3 x5 (x6 + 1) s
theorem sG_M_feeds_112 {h0 : Nat → pm_C} {B : Nat} {D : Nat → pd} {hi z N : Nat} (h : FX D hi) {rec18 : Int64 → Int32 → Int32 → pm_S → Option (Int64 × pm_S)} {grec18 : Int64 → Int32 → Int32 → mst → Option (Int64 × mst)} (hrec18 : ∀ (y1 : Int64) (y2 : Int32) (y3 : Int32) (s : mst), rec18 y1 y2 y3 (mkM h0 B D hi z s) = (grec18 y1 y2 y3 s).map (cvM h0 B D hi z)) {x3 : Int64} {x5 : Int32} {x6 : Int32} {s : mst} : F_M_feeds_112 N rec18 (B + 85) x3 x5 x6 (mkM h0 B D hi z s) = (G_M_feeds_112 N grec18 x3 x5 x6 s).map (cvM h0 B D hi z) := by
  simp only [F_M_feeds_112, G_M_feeds_112, aim_109 h, aim_88 h, aim_89 h, aim_91 h, rdm_85_10 h, rdm_85_29 h, rdm_85_35 h, rdm_85_7 h, rdm_85_8 h, sg_M_farNode h, sg_M_nearNode h, sg_M_sound h, sG_M_feeds_118 h, hrec18, Option.bind_some, Option.map_bind, Option.bind_map, Option.map_some, Option.map_none, Option.bind_none, apply_ite (Option.map _), if_true, Function.comp_def, cvM]
  all_goals rfl
def G_M_feeds_101 (N : Nat) (rec18 : Int64 → Int32 → Int32 → mst → Option (Int64 × mst)) (rec56 : Int64 → Int32 → Int32 → mst → Option (Int64 × mst)) (x5 : Int32) (x6 : Int32) (x7 : Int32) (t0 : Int64) (t1 : Int64) (s : mst) : Option (Int64 × mst) :=
    rec56 (t1 ||| t0) (x5 + 1) (x7 + 1) s
theorem sG_M_feeds_101 {h0 : Nat → pm_C} {B : Nat} {D : Nat → pd} {hi z N : Nat} (h : FX D hi) {rec18 : Int64 → Int32 → Int32 → pm_S → Option (Int64 × pm_S)} {grec18 : Int64 → Int32 → Int32 → mst → Option (Int64 × mst)} {rec56 : Int64 → Int32 → Int32 → pm_S → Option (Int64 × pm_S)} {grec56 : Int64 → Int32 → Int32 → mst → Option (Int64 × mst)} (hrec18 : ∀ (y1 : Int64) (y2 : Int32) (y3 : Int32) (s : mst), rec18 y1 y2 y3 (mkM h0 B D hi z s) = (grec18 y1 y2 y3 s).map (cvM h0 B D hi z)) (hrec56 : ∀ (y1 : Int64) (y2 : Int32) (y3 : Int32) (s : mst), rec56 y1 y2 y3 (mkM h0 B D hi z s) = (grec56 y1 y2 y3 s).map (cvM h0 B D hi z)) {x5 : Int32} {x6 : Int32} {x7 : Int32} {t0 : Int64} {t1 : Int64} {s : mst} : F_M_feeds_101 N rec18 rec56 (B + 85) x5 x6 x7 t0 t1 (mkM h0 B D hi z s) = (G_M_feeds_101 N grec18 grec56 x5 x6 x7 t0 t1 s).map (cvM h0 B D hi z) := by
  simp only [F_M_feeds_101, G_M_feeds_101, aim_109 h, aim_88 h, aim_89 h, aim_91 h, rdm_85_10 h, rdm_85_29 h, rdm_85_35 h, rdm_85_7 h, rdm_85_8 h, sg_M_farNode h, sg_M_nearNode h, sg_M_sound h, sG_M_feeds_118 h, sG_M_feeds_112 h hrec18, hrec18, hrec56, Option.bind_some, Option.map_bind, Option.bind_map, Option.map_some, Option.map_none, Option.bind_none, apply_ite (Option.map _), if_true, Function.comp_def, cvM]
  all_goals rfl
def GB_M_feeds_56 (N : Nat) (rec18 : Int64 → Int32 → Int32 → mst → Option (Int64 × mst)) (rec56 : Int64 → Int32 → Int32 → mst → Option (Int64 × mst)) (x6 : Int32) (x3 : Int64) (x5 : Int32) (x7 : Int32) (s : mst) : Option (Int64 × mst) :=
    (rdA s 91 49 ((7 * (s.1 85 29)) + x6)).bind fun v6 =>
    if v6 ≤ x7 then
    G_M_feeds_112 N rec18 x3 x5 x6 s
    else
    ((G_M_nearNode N s x6 x7).bind fun r8 =>
    (rdA r8.2 109 462 r8.1).bind fun v9 =>
    if v9 = 0 then
    G_M_feeds_101 N rec18 rec56 x5 x6 x7 0 x3 r8.2
    else
    G_M_feeds_101 N rec18 rec56 x5 x6 x7 (1 <<< (Int32.toInt64 x5 &&& 63)) x3 r8.2)
theorem sGB_M_feeds_56 {h0 : Nat → pm_C} {B : Nat} {D : Nat → pd} {hi z N : Nat} (h : FX D hi) {rec18 : Int64 → Int32 → Int32 → pm_S → Option (Int64 × pm_S)} {grec18 : Int64 → Int32 → Int32 → mst → Option (Int64 × mst)} {rec56 : Int64 → Int32 → Int32 → pm_S → Option (Int64 × pm_S)} {grec56 : Int64 → Int32 → Int32 → mst → Option (Int64 × mst)} (hrec18 : ∀ (y1 : Int64) (y2 : Int32) (y3 : Int32) (s : mst), rec18 y1 y2 y3 (mkM h0 B D hi z s) = (grec18 y1 y2 y3 s).map (cvM h0 B D hi z)) (hrec56 : ∀ (y1 : Int64) (y2 : Int32) (y3 : Int32) (s : mst), rec56 y1 y2 y3 (mkM h0 B D hi z s) = (grec56 y1 y2 y3 s).map (cvM h0 B D hi z)) {x3 : Int64} {x5 : Int32} {x6 : Int32} {x7 : Int32} {s : mst} : B_M_feeds_56 N rec18 rec56 (B + 85) x6 x3 x5 x7 (mkM h0 B D hi z s) = (GB_M_feeds_56 N grec18 grec56 x6 x3 x5 x7 s).map (cvM h0 B D hi z) := by
  simp only [B_M_feeds_56, GB_M_feeds_56, aim_109 h, aim_88 h, aim_89 h, aim_91 h, rdm_85_10 h, rdm_85_29 h, rdm_85_35 h, rdm_85_7 h, rdm_85_8 h, sg_M_farNode h, sg_M_nearNode h, sg_M_sound h, sG_M_feeds_118 h, sG_M_feeds_112 h hrec18, sG_M_feeds_101 h hrec18 hrec56, hrec18, hrec56, Option.bind_some, Option.map_bind, Option.bind_map, Option.map_some, Option.map_none, Option.bind_none, apply_ite (Option.map _), if_true, Function.comp_def, cvM]
  all_goals rfl
def G_M_feeds_56 (N : Nat) (rec18 : Int64 → Int32 → Int32 → mst → Option (Int64 × mst)) (x6 : Int32) : Nat → Int64 → Int32 → Int32 → mst → Option (Int64 × mst)
  | 0 => fun _ _ _ _ => none
  | n + 1 => fun x3 x5 x7 s => GB_M_feeds_56 N rec18 (G_M_feeds_56 N rec18 x6 n) x6 x3 x5 x7 s
theorem sG_M_feeds_56 {h0 : Nat → pm_C} {B : Nat} {D : Nat → pd} {hi z N : Nat} (h : FX D hi) {rec18 : Int64 → Int32 → Int32 → pm_S → Option (Int64 × pm_S)} {grec18 : Int64 → Int32 → Int32 → mst → Option (Int64 × mst)} (hrec18 : ∀ (y1 : Int64) (y2 : Int32) (y3 : Int32) (s : mst), rec18 y1 y2 y3 (mkM h0 B D hi z s) = (grec18 y1 y2 y3 s).map (cvM h0 B D hi z)) {x6 : Int32} : ∀ (n : Nat) (x3 : Int64) (x5 : Int32) (x7 : Int32) (s : mst), F_M_feeds_56 N rec18 (B + 85) x6 n x3 x5 x7 (mkM h0 B D hi z s) = (G_M_feeds_56 N grec18 x6 n x3 x5 x7 s).map (cvM h0 B D hi z) := by
  intro n
  induction n with
  | zero => intro x3 x5 x7 s; rfl
  | succ n ih => intro x3 x5 x7 s; exact sGB_M_feeds_56 h hrec18 ih
def GB_M_feeds_18 (N : Nat)  (rec18 : Int64 → Int32 → Int32 → mst → Option (Int64 × mst))  (x3 : Int64) (x5 : Int32) (x6 : Int32) (s : mst) : Option (Int64 × mst) :=
    (rdA s 88 7 (s.1 85 29)).bind fun v4 =>
    if v4 ≤ x6 then
    G_M_feeds_118 N x3 s
    else
    ((rdA s 89 49 ((7 * (s.1 85 29)) + x6)).bind fun v5 =>
    if v5 = 0 then
    G_M_feeds_56 N rec18 x6 N x3 x5 0 s
    else
    G_M_feeds_112 N rec18 x3 x5 x6 s)
theorem sGB_M_feeds_18 {h0 : Nat → pm_C} {B : Nat} {D : Nat → pd} {hi z N : Nat} (h : FX D hi) {rec18 : Int64 → Int32 → Int32 → pm_S → Option (Int64 × pm_S)} {grec18 : Int64 → Int32 → Int32 → mst → Option (Int64 × mst)} (hrec18 : ∀ (y1 : Int64) (y2 : Int32) (y3 : Int32) (s : mst), rec18 y1 y2 y3 (mkM h0 B D hi z s) = (grec18 y1 y2 y3 s).map (cvM h0 B D hi z)) {x3 : Int64} {x5 : Int32} {x6 : Int32} {s : mst} : B_M_feeds_18 N rec18 (B + 85) x3 x5 x6 (mkM h0 B D hi z s) = (GB_M_feeds_18 N grec18 x3 x5 x6 s).map (cvM h0 B D hi z) := by
  simp only [B_M_feeds_18, GB_M_feeds_18, aim_109 h, aim_88 h, aim_89 h, aim_91 h, rdm_85_10 h, rdm_85_29 h, rdm_85_35 h, rdm_85_7 h, rdm_85_8 h, sg_M_farNode h, sg_M_nearNode h, sg_M_sound h, sG_M_feeds_118 h, sG_M_feeds_112 h hrec18, sG_M_feeds_56 h hrec18, hrec18, Option.bind_some, Option.map_bind, Option.bind_map, Option.map_some, Option.map_none, Option.bind_none, apply_ite (Option.map _), if_true, Function.comp_def, cvM]
  all_goals rfl
def G_M_feeds_18 (N : Nat)   : Nat → Int64 → Int32 → Int32 → mst → Option (Int64 × mst)
  | 0 => fun _ _ _ _ => none
  | n + 1 => fun x3 x5 x6 s => GB_M_feeds_18 N  (G_M_feeds_18 N   n)  x3 x5 x6 s
theorem sG_M_feeds_18 {h0 : Nat → pm_C} {B : Nat} {D : Nat → pd} {hi z N : Nat} (h : FX D hi)    : ∀ (n : Nat) (x3 : Int64) (x5 : Int32) (x6 : Int32) (s : mst), F_M_feeds_18 N  (B + 85) n x3 x5 x6 (mkM h0 B D hi z s) = (G_M_feeds_18 N   n x3 x5 x6 s).map (cvM h0 B D hi z) := by
  intro n
  induction n with
  | zero => intro x3 x5 x6 s; rfl
  | succ n ih => intro x3 x5 x6 s; exact sGB_M_feeds_18 h  ih
def G_M_feeds (N : Nat) (s : mst) (p0 : Int32) (p1 : Int32) : Option (Int64 × mst) :=
    (G_M_farNode N s p0 p1).bind fun r2 =>
    (G_M_sound N r2.2 r2.1).bind fun s3 =>
    G_M_feeds_18 N  N 0 0 0 s3
theorem sg_M_feeds {h0 : Nat → pm_C} {B : Nat} {D : Nat → pd} {hi z N : Nat} (h : FX D hi) {p0 : Int32} {p1 : Int32} {s : mst} : F_M_feeds N (mkM h0 B D hi z s) (B + 85) p0 p1 = (G_M_feeds N s p0 p1).map (cvM h0 B D hi z) := by
  simp only [F_M_feeds, G_M_feeds, aim_109 h, aim_88 h, aim_89 h, aim_91 h, rdm_85_10 h, rdm_85_29 h, rdm_85_35 h, rdm_85_7 h, rdm_85_8 h, sg_M_farNode h, sg_M_nearNode h, sg_M_sound h, sG_M_feeds_118 h, sG_M_feeds_18 h, rcm_85 h, Option.bind_some, Option.map_bind, Option.bind_map, Option.map_some, Option.map_none, Option.bind_none, apply_ite (Option.map _), if_true, Function.comp_def, cvM]
  all_goals rfl
def G_M_fed_22 (N : Nat)   (s : mst) : Option (Int64 × mst) :=
    some ((-1), s)
theorem sG_M_fed_22 {h0 : Nat → pm_C} {B : Nat} {D : Nat → pd} {hi z N : Nat} (h : FX D hi)    {s : mst} : F_M_fed_22 N   (mkM h0 B D hi z s) = (G_M_fed_22 N   s).map (cvM h0 B D hi z) := by
  simp only [F_M_fed_22, G_M_fed_22, sg_M_feeds h, sg_M_hangsAt h, sg_M_isNumberOfHouse h, sg_M_isWorld h, sg_M_lay h, wrm_85_0 h, Option.bind_some, Option.map_bind, Option.bind_map, Option.map_some, Option.map_none, Option.bind_none, apply_ite (Option.map _), if_true, Function.comp_def, cvM]
  all_goals rfl
def G_M_fed_67 (N : Nat)  (t0 : Int64) (s : mst) : Option (Int64 × mst) :=
    some (t0, s)
theorem sG_M_fed_67 {h0 : Nat → pm_C} {B : Nat} {D : Nat → pd} {hi z N : Nat} (h : FX D hi)   {t0 : Int64} {s : mst} : F_M_fed_67 N  t0 (mkM h0 B D hi z s) = (G_M_fed_67 N  t0 s).map (cvM h0 B D hi z) := by
  simp only [F_M_fed_67, G_M_fed_67, sg_M_feeds h, sg_M_hangsAt h, sg_M_isNumberOfHouse h, sg_M_isWorld h, sg_M_lay h, wrm_85_0 h, sG_M_fed_22 h, Option.bind_some, Option.map_bind, Option.bind_map, Option.map_some, Option.map_none, Option.bind_none, apply_ite (Option.map _), if_true, Function.comp_def, cvM]
  all_goals rfl
def G_M_fed (N : Nat) (s : mst) (p0 : Int32) (p1 : Int32) (p2 : Int32) (p3 : Int32) : Option (Int64 × mst) :=
    (G_M_isWorld N (wrI s 85 0 0) p0 p1).bind fun r2 =>
    if r2.1 = 0 then
    G_M_fed_22 N r2.2
    else
    ((G_M_isNumberOfHouse N r2.2 p3).bind fun r4 =>
    if r4.1 = 0 then
    G_M_fed_22 N r4.2
    else
    ((G_M_lay N r4.2 p0 p1 p2).bind fun s5 =>
    (G_M_hangsAt N s5 p3).bind fun r7 =>
    if r7.1 = (-1) then
    G_M_fed_67 N (-1) r7.2
    else
    ((G_M_feeds N r7.2 (r7.1 / 6) (r7.1 - r7.1 / 6 * 6)).bind fun r9 =>
    G_M_fed_67 N r9.1 r9.2)))
theorem sg_M_fed {h0 : Nat → pm_C} {B : Nat} {D : Nat → pd} {hi z N : Nat} (h : FX D hi) {p0 : Int32} {p1 : Int32} {p2 : Int32} {p3 : Int32} {s : mst} : F_M_fed N (mkM h0 B D hi z s) (B + 85) p0 p1 p2 p3 = (G_M_fed N s p0 p1 p2 p3).map (cvM h0 B D hi z) := by
  simp only [F_M_fed, G_M_fed, sg_M_feeds h, sg_M_hangsAt h, sg_M_isNumberOfHouse h, sg_M_isWorld h, sg_M_lay h, wrm_85_0 h, sG_M_fed_22 h, sG_M_fed_67 h, rcm_85 h, Option.bind_some, Option.map_bind, Option.bind_map, Option.map_some, Option.map_none, Option.bind_none, apply_ite (Option.map _), if_true, Function.comp_def, cvM]
  all_goals rfl
def G_M_served_191 (N : Nat)  (x4 : Int32) (s : mst) : Option (Int32 × mst) :=
    some (x4, s)
theorem sG_M_served_191 {h0 : Nat → pm_C} {B : Nat} {D : Nat → pd} {hi z N : Nat} (h : FX D hi)   {x4 : Int32} {s : mst} : F_M_served_191 N  x4 (mkM h0 B D hi z s) = (G_M_served_191 N  x4 s).map (cvM h0 B D hi z) := by
  simp only [F_M_served_191, G_M_served_191, ajm_110 h, rdm_85_36 h, sg_Lng_bitCount h, sg_M_feeds h, sg_M_hangsAt h, sg_M_isWorld h, sg_M_lay h, sjm_110 h, wrm_85_0 h, Option.bind_some, Option.map_bind, Option.bind_map, Option.map_some, Option.map_none, Option.bind_none, apply_ite (Option.map _), if_true, Function.comp_def, cvM]
  all_goals rfl
def G_M_served_182 (N : Nat) (rec84 : Int32 → Int32 → mst → Option (Int32 × mst)) (x5 : Int32) (t0 : Int32) (t1 : Int32) (s : mst) : Option (Int32 × mst) :=
    rec84 (t1 ||| t0) (x5 + 1) s
theorem sG_M_served_182 {h0 : Nat → pm_C} {B : Nat} {D : Nat → pd} {hi z N : Nat} (h : FX D hi) {rec84 : Int32 → Int32 → pm_S → Option (Int32 × pm_S)} {grec84 : Int32 → Int32 → mst → Option (Int32 × mst)} (hrec84 : ∀ (y1 : Int32) (y2 : Int32) (s : mst), rec84 y1 y2 (mkM h0 B D hi z s) = (grec84 y1 y2 s).map (cvM h0 B D hi z)) {x5 : Int32} {t0 : Int32} {t1 : Int32} {s : mst} : F_M_served_182 N rec84 (B + 85) x5 t0 t1 (mkM h0 B D hi z s) = (G_M_served_182 N grec84 x5 t0 t1 s).map (cvM h0 B D hi z) := by
  simp only [F_M_served_182, G_M_served_182, ajm_110 h, rdm_85_36 h, sg_Lng_bitCount h, sg_M_feeds h, sg_M_hangsAt h, sg_M_isWorld h, sg_M_lay h, sjm_110 h, wrm_85_0 h, sG_M_served_191 h, hrec84, Option.bind_some, Option.map_bind, Option.bind_map, Option.map_some, Option.map_none, Option.bind_none, apply_ite (Option.map _), if_true, Function.comp_def, cvM]
  all_goals rfl
def G_M_served_167 (N : Nat) (rec84 : Int32 → Int32 → mst → Option (Int32 × mst)) (x4 : Int32) (x5 : Int32) (x6 : Int32) (s : mst) : Option (Int32 × mst) :=
    if x6 = 0 then
    G_M_served_182 N rec84 x5 0 x4 s
    else
    G_M_served_182 N rec84 x5 (1 <<< (x5 &&& 31)) x4 s
theorem sG_M_served_167 {h0 : Nat → pm_C} {B : Nat} {D : Nat → pd} {hi z N : Nat} (h : FX D hi) {rec84 : Int32 → Int32 → pm_S → Option (Int32 × pm_S)} {grec84 : Int32 → Int32 → mst → Option (Int32 × mst)} (hrec84 : ∀ (y1 : Int32) (y2 : Int32) (s : mst), rec84 y1 y2 (mkM h0 B D hi z s) = (grec84 y1 y2 s).map (cvM h0 B D hi z)) {x4 : Int32} {x5 : Int32} {x6 : Int32} {s : mst} : F_M_served_167 N rec84 (B + 85) x4 x5 x6 (mkM h0 B D hi z s) = (G_M_served_167 N grec84 x4 x5 x6 s).map (cvM h0 B D hi z) := by
  simp only [F_M_served_167, G_M_served_167, ajm_110 h, rdm_85_36 h, sg_Lng_bitCount h, sg_M_feeds h, sg_M_hangsAt h, sg_M_isWorld h, sg_M_lay h, sjm_110 h, wrm_85_0 h, sG_M_served_191 h, sG_M_served_182 h hrec84, hrec84, Option.bind_some, Option.map_bind, Option.bind_map, Option.map_some, Option.map_none, Option.bind_none, apply_ite (Option.map _), if_true, Function.comp_def, cvM]
  all_goals rfl
def G_M_served_159 (N : Nat) (rec84 : Int32 → Int32 → mst → Option (Int32 × mst)) (rec115 : Int32 → Int32 → mst → Option (Int32 × mst)) (x4 : Int32) (x5 : Int32) (x7 : Int32) (t0 : Int32) (s : mst) : Option (Int32 × mst) :=
    rec115 t0 (x7 + 1) s
theorem sG_M_served_159 {h0 : Nat → pm_C} {B : Nat} {D : Nat → pd} {hi z N : Nat} (h : FX D hi) {rec84 : Int32 → Int32 → pm_S → Option (Int32 × pm_S)} {grec84 : Int32 → Int32 → mst → Option (Int32 × mst)} {rec115 : Int32 → Int32 → pm_S → Option (Int32 × pm_S)} {grec115 : Int32 → Int32 → mst → Option (Int32 × mst)} (hrec84 : ∀ (y1 : Int32) (y2 : Int32) (s : mst), rec84 y1 y2 (mkM h0 B D hi z s) = (grec84 y1 y2 s).map (cvM h0 B D hi z)) (hrec115 : ∀ (y1 : Int32) (y2 : Int32) (s : mst), rec115 y1 y2 (mkM h0 B D hi z s) = (grec115 y1 y2 s).map (cvM h0 B D hi z)) {x4 : Int32} {x5 : Int32} {x7 : Int32} {t0 : Int32} {s : mst} : F_M_served_159 N rec84 rec115 (B + 85) x4 x5 x7 t0 (mkM h0 B D hi z s) = (G_M_served_159 N grec84 grec115 x4 x5 x7 t0 s).map (cvM h0 B D hi z) := by
  simp only [F_M_served_159, G_M_served_159, ajm_110 h, rdm_85_36 h, sg_Lng_bitCount h, sg_M_feeds h, sg_M_hangsAt h, sg_M_isWorld h, sg_M_lay h, sjm_110 h, wrm_85_0 h, sG_M_served_191 h, sG_M_served_182 h hrec84, sG_M_served_167 h hrec84, hrec84, hrec115, Option.bind_some, Option.map_bind, Option.bind_map, Option.map_some, Option.map_none, Option.bind_none, apply_ite (Option.map _), if_true, Function.comp_def, cvM]
  all_goals rfl
def G_M_served_158 (N : Nat) (rec84 : Int32 → Int32 → mst → Option (Int32 × mst)) (rec115 : Int32 → Int32 → mst → Option (Int32 × mst)) (x4 : Int32) (x5 : Int32) (x7 : Int32) (s : mst) : Option (Int32 × mst) :=
    G_M_served_159 N rec84 rec115 x4 x5 x7 0 s
theorem sG_M_served_158 {h0 : Nat → pm_C} {B : Nat} {D : Nat → pd} {hi z N : Nat} (h : FX D hi) {rec84 : Int32 → Int32 → pm_S → Option (Int32 × pm_S)} {grec84 : Int32 → Int32 → mst → Option (Int32 × mst)} {rec115 : Int32 → Int32 → pm_S → Option (Int32 × pm_S)} {grec115 : Int32 → Int32 → mst → Option (Int32 × mst)} (hrec84 : ∀ (y1 : Int32) (y2 : Int32) (s : mst), rec84 y1 y2 (mkM h0 B D hi z s) = (grec84 y1 y2 s).map (cvM h0 B D hi z)) (hrec115 : ∀ (y1 : Int32) (y2 : Int32) (s : mst), rec115 y1 y2 (mkM h0 B D hi z s) = (grec115 y1 y2 s).map (cvM h0 B D hi z)) {x4 : Int32} {x5 : Int32} {x7 : Int32} {s : mst} : F_M_served_158 N rec84 rec115 (B + 85) x4 x5 x7 (mkM h0 B D hi z s) = (G_M_served_158 N grec84 grec115 x4 x5 x7 s).map (cvM h0 B D hi z) := by
  simp only [F_M_served_158, G_M_served_158, ajm_110 h, rdm_85_36 h, sg_Lng_bitCount h, sg_M_feeds h, sg_M_hangsAt h, sg_M_isWorld h, sg_M_lay h, sjm_110 h, wrm_85_0 h, sG_M_served_191 h, sG_M_served_182 h hrec84, sG_M_served_167 h hrec84, sG_M_served_159 h hrec84 hrec115, hrec84, hrec115, Option.bind_some, Option.map_bind, Option.bind_map, Option.map_some, Option.map_none, Option.bind_none, apply_ite (Option.map _), if_true, Function.comp_def, cvM]
  all_goals rfl
def G_M_served_154 (N : Nat) (rec84 : Int32 → Int32 → mst → Option (Int32 × mst)) (rec115 : Int32 → Int32 → mst → Option (Int32 × mst)) (x4 : Int32) (x5 : Int32) (x7 : Int32) (s : mst) : Option (Int32 × mst) :=
    G_M_served_159 N rec84 rec115 x4 x5 x7 1 s
theorem sG_M_served_154 {h0 : Nat → pm_C} {B : Nat} {D : Nat → pd} {hi z N : Nat} (h : FX D hi) {rec84 : Int32 → Int32 → pm_S → Option (Int32 × pm_S)} {grec84 : Int32 → Int32 → mst → Option (Int32 × mst)} {rec115 : Int32 → Int32 → pm_S → Option (Int32 × pm_S)} {grec115 : Int32 → Int32 → mst → Option (Int32 × mst)} (hrec84 : ∀ (y1 : Int32) (y2 : Int32) (s : mst), rec84 y1 y2 (mkM h0 B D hi z s) = (grec84 y1 y2 s).map (cvM h0 B D hi z)) (hrec115 : ∀ (y1 : Int32) (y2 : Int32) (s : mst), rec115 y1 y2 (mkM h0 B D hi z s) = (grec115 y1 y2 s).map (cvM h0 B D hi z)) {x4 : Int32} {x5 : Int32} {x7 : Int32} {s : mst} : F_M_served_154 N rec84 rec115 (B + 85) x4 x5 x7 (mkM h0 B D hi z s) = (G_M_served_154 N grec84 grec115 x4 x5 x7 s).map (cvM h0 B D hi z) := by
  simp only [F_M_served_154, G_M_served_154, ajm_110 h, rdm_85_36 h, sg_Lng_bitCount h, sg_M_feeds h, sg_M_hangsAt h, sg_M_isWorld h, sg_M_lay h, sjm_110 h, wrm_85_0 h, sG_M_served_191 h, sG_M_served_182 h hrec84, sG_M_served_167 h hrec84, sG_M_served_159 h hrec84 hrec115, sG_M_served_158 h hrec84 hrec115, hrec84, hrec115, Option.bind_some, Option.map_bind, Option.bind_map, Option.map_some, Option.map_none, Option.bind_none, apply_ite (Option.map _), if_true, Function.comp_def, cvM]
  all_goals rfl
def GB_M_served_115 (N : Nat) (rec84 : Int32 → Int32 → mst → Option (Int32 × mst)) (rec115 : Int32 → Int32 → mst → Option (Int32 × mst)) (x4 : Int32) (x5 : Int32) (x6 : Int32) (x7 : Int32) (s : mst) : Option (Int32 × mst) :=
    if 10 ≤ x7 then
    G_M_served_167 N rec84 x4 x5 x6 s
    else
    (if x6 = 0 then
    G_M_served_158 N rec84 rec115 x4 x5 x7 s
    else
    (if x7 = x5 then
    G_M_served_154 N rec84 rec115 x4 x5 x7 s
    else
    ((rdJ s 110 10 x7).bind fun v7 =>
    (rdJ s 110 10 x5).bind fun v8 =>
    if (lg_cmp (v7 &&& v8) 0) = 0 then
    G_M_served_154 N rec84 rec115 x4 x5 x7 s
    else
    G_M_served_158 N rec84 rec115 x4 x5 x7 s)))
theorem sGB_M_served_115 {h0 : Nat → pm_C} {B : Nat} {D : Nat → pd} {hi z N : Nat} (h : FX D hi) {rec84 : Int32 → Int32 → pm_S → Option (Int32 × pm_S)} {grec84 : Int32 → Int32 → mst → Option (Int32 × mst)} {rec115 : Int32 → Int32 → pm_S → Option (Int32 × pm_S)} {grec115 : Int32 → Int32 → mst → Option (Int32 × mst)} (hrec84 : ∀ (y1 : Int32) (y2 : Int32) (s : mst), rec84 y1 y2 (mkM h0 B D hi z s) = (grec84 y1 y2 s).map (cvM h0 B D hi z)) (hrec115 : ∀ (y1 : Int32) (y2 : Int32) (s : mst), rec115 y1 y2 (mkM h0 B D hi z s) = (grec115 y1 y2 s).map (cvM h0 B D hi z)) {x4 : Int32} {x5 : Int32} {x6 : Int32} {x7 : Int32} {s : mst} : B_M_served_115 N rec84 rec115 (B + 85) x4 x5 x6 x7 (mkM h0 B D hi z s) = (GB_M_served_115 N grec84 grec115 x4 x5 x6 x7 s).map (cvM h0 B D hi z) := by
  simp only [B_M_served_115, GB_M_served_115, ajm_110 h, rdm_85_36 h, sg_Lng_bitCount h, sg_M_feeds h, sg_M_hangsAt h, sg_M_isWorld h, sg_M_lay h, sjm_110 h, wrm_85_0 h, sG_M_served_191 h, sG_M_served_182 h hrec84, sG_M_served_167 h hrec84, sG_M_served_159 h hrec84 hrec115, sG_M_served_158 h hrec84 hrec115, sG_M_served_154 h hrec84 hrec115, hrec84, hrec115, Option.bind_some, Option.map_bind, Option.bind_map, Option.map_some, Option.map_none, Option.bind_none, apply_ite (Option.map _), if_true, Function.comp_def, cvM]
  all_goals rfl
def G_M_served_115 (N : Nat) (rec84 : Int32 → Int32 → mst → Option (Int32 × mst)) (x4 : Int32) (x5 : Int32) : Nat → Int32 → Int32 → mst → Option (Int32 × mst)
  | 0 => fun _ _ _ => none
  | n + 1 => fun x6 x7 s => GB_M_served_115 N rec84 (G_M_served_115 N rec84 x4 x5 n) x4 x5 x6 x7 s
theorem sG_M_served_115 {h0 : Nat → pm_C} {B : Nat} {D : Nat → pd} {hi z N : Nat} (h : FX D hi) {rec84 : Int32 → Int32 → pm_S → Option (Int32 × pm_S)} {grec84 : Int32 → Int32 → mst → Option (Int32 × mst)} (hrec84 : ∀ (y1 : Int32) (y2 : Int32) (s : mst), rec84 y1 y2 (mkM h0 B D hi z s) = (grec84 y1 y2 s).map (cvM h0 B D hi z)) {x4 : Int32} {x5 : Int32} : ∀ (n : Nat) (x6 : Int32) (x7 : Int32) (s : mst), F_M_served_115 N rec84 (B + 85) x4 x5 n x6 x7 (mkM h0 B D hi z s) = (G_M_served_115 N grec84 x4 x5 n x6 x7 s).map (cvM h0 B D hi z) := by
  intro n
  induction n with
  | zero => intro x6 x7 s; rfl
  | succ n ih => intro x6 x7 s; exact sGB_M_served_115 h hrec84 ih
def G_M_served_110 (N : Nat) (rec84 : Int32 → Int32 → mst → Option (Int32 × mst)) (x4 : Int32) (x5 : Int32) (t0 : Int32) (s : mst) : Option (Int32 × mst) :=
    G_M_served_115 N rec84 x4 x5 N t0 0 s
theorem sG_M_served_110 {h0 : Nat → pm_C} {B : Nat} {D : Nat → pd} {hi z N : Nat} (h : FX D hi) {rec84 : Int32 → Int32 → pm_S → Option (Int32 × pm_S)} {grec84 : Int32 → Int32 → mst → Option (Int32 × mst)} (hrec84 : ∀ (y1 : Int32) (y2 : Int32) (s : mst), rec84 y1 y2 (mkM h0 B D hi z s) = (grec84 y1 y2 s).map (cvM h0 B D hi z)) {x4 : Int32} {x5 : Int32} {t0 : Int32} {s : mst} : F_M_served_110 N rec84 (B + 85) x4 x5 t0 (mkM h0 B D hi z s) = (G_M_served_110 N grec84 x4 x5 t0 s).map (cvM h0 B D hi z) := by
  simp only [F_M_served_110, G_M_served_110, ajm_110 h, rdm_85_36 h, sg_Lng_bitCount h, sg_M_feeds h, sg_M_hangsAt h, sg_M_isWorld h, sg_M_lay h, sjm_110 h, wrm_85_0 h, sG_M_served_191 h, sG_M_served_182 h hrec84, sG_M_served_167 h hrec84, sG_M_served_115 h hrec84, hrec84, Option.bind_some, Option.map_bind, Option.bind_map, Option.map_some, Option.map_none, Option.bind_none, apply_ite (Option.map _), if_true, Function.comp_def, cvM]
  all_goals rfl
def GB_M_served_84 (N : Nat)  (rec84 : Int32 → Int32 → mst → Option (Int32 × mst))  (x4 : Int32) (x5 : Int32) (s : mst) : Option (Int32 × mst) :=
    if 10 ≤ x5 then
    G_M_served_191 N x4 s
    else
    ((rdJ s 110 10 x5).bind fun v4 =>
    (G_Lng_bitCount N s v4).bind fun r6 =>
    if r6.1 = 1 then
    G_M_served_110 N rec84 x4 x5 1 r6.2
    else
    G_M_served_110 N rec84 x4 x5 0 r6.2)
theorem sGB_M_served_84 {h0 : Nat → pm_C} {B : Nat} {D : Nat → pd} {hi z N : Nat} (h : FX D hi) {rec84 : Int32 → Int32 → pm_S → Option (Int32 × pm_S)} {grec84 : Int32 → Int32 → mst → Option (Int32 × mst)} (hrec84 : ∀ (y1 : Int32) (y2 : Int32) (s : mst), rec84 y1 y2 (mkM h0 B D hi z s) = (grec84 y1 y2 s).map (cvM h0 B D hi z)) {x4 : Int32} {x5 : Int32} {s : mst} : B_M_served_84 N rec84 (B + 85) x4 x5 (mkM h0 B D hi z s) = (GB_M_served_84 N grec84 x4 x5 s).map (cvM h0 B D hi z) := by
  simp only [B_M_served_84, GB_M_served_84, ajm_110 h, rdm_85_36 h, sg_Lng_bitCount h, sg_M_feeds h, sg_M_hangsAt h, sg_M_isWorld h, sg_M_lay h, sjm_110 h, wrm_85_0 h, sG_M_served_191 h, sG_M_served_182 h hrec84, sG_M_served_167 h hrec84, sG_M_served_115 h hrec84, sG_M_served_110 h hrec84, hrec84, Option.bind_some, Option.map_bind, Option.bind_map, Option.map_some, Option.map_none, Option.bind_none, apply_ite (Option.map _), if_true, Function.comp_def, cvM]
  all_goals rfl
def G_M_served_84 (N : Nat)   : Nat → Int32 → Int32 → mst → Option (Int32 × mst)
  | 0 => fun _ _ _ => none
  | n + 1 => fun x4 x5 s => GB_M_served_84 N  (G_M_served_84 N   n)  x4 x5 s
theorem sG_M_served_84 {h0 : Nat → pm_C} {B : Nat} {D : Nat → pd} {hi z N : Nat} (h : FX D hi)    : ∀ (n : Nat) (x4 : Int32) (x5 : Int32) (s : mst), F_M_served_84 N  (B + 85) n x4 x5 (mkM h0 B D hi z s) = (G_M_served_84 N   n x4 x5 s).map (cvM h0 B D hi z) := by
  intro n
  induction n with
  | zero => intro x4 x5 s; rfl
  | succ n ih => intro x4 x5 s; exact sGB_M_served_84 h  ih
def G_M_served_78 (N : Nat)   (s : mst) : Option (Int32 × mst) :=
    G_M_served_84 N  N 0 0 s
theorem sG_M_served_78 {h0 : Nat → pm_C} {B : Nat} {D : Nat → pd} {hi z N : Nat} (h : FX D hi)    {s : mst} : F_M_served_78 N  (B + 85) (mkM h0 B D hi z s) = (G_M_served_78 N   s).map (cvM h0 B D hi z) := by
  simp only [F_M_served_78, G_M_served_78, ajm_110 h, rdm_85_36 h, sg_Lng_bitCount h, sg_M_feeds h, sg_M_hangsAt h, sg_M_isWorld h, sg_M_lay h, sjm_110 h, wrm_85_0 h, sG_M_served_191 h, sG_M_served_84 h, Option.bind_some, Option.map_bind, Option.bind_map, Option.map_some, Option.map_none, Option.bind_none, apply_ite (Option.map _), if_true, Function.comp_def, cvM]
  all_goals rfl
def G_M_served_71 (N : Nat) (rec26 : Int32 → mst → Option (Int32 × mst)) (x4 : Int32) (t0 : Int64) (t1 : Int32) (s : mst) : Option (Int32 × mst) :=
    (stJ s 110 10 t1 t0).bind fun s11 =>
    rec26 (x4 + 1) s11
theorem sG_M_served_71 {h0 : Nat → pm_C} {B : Nat} {D : Nat → pd} {hi z N : Nat} (h : FX D hi) {rec26 : Int32 → pm_S → Option (Int32 × pm_S)} {grec26 : Int32 → mst → Option (Int32 × mst)} (hrec26 : ∀ (y1 : Int32) (s : mst), rec26 y1 (mkM h0 B D hi z s) = (grec26 y1 s).map (cvM h0 B D hi z)) {x4 : Int32} {t0 : Int64} {t1 : Int32} {s : mst} : F_M_served_71_2 N rec26 (B + 85) x4 t0 t1 (B + 110) (mkM h0 B D hi z s) = (G_M_served_71 N grec26 x4 t0 t1 s).map (cvM h0 B D hi z) := by
  simp only [F_M_served_71_2, G_M_served_71, ajm_110 h, rdm_85_36 h, sg_Lng_bitCount h, sg_M_feeds h, sg_M_hangsAt h, sg_M_isWorld h, sg_M_lay h, sjm_110 h, wrm_85_0 h, sG_M_served_191 h, sG_M_served_84 h, sG_M_served_78 h, hrec26, Option.bind_some, Option.map_bind, Option.bind_map, Option.map_some, Option.map_none, Option.bind_none, apply_ite (Option.map _), if_true, Function.comp_def, cvM]
  all_goals rfl
def GB_M_served_26 (N : Nat)  (rec26 : Int32 → mst → Option (Int32 × mst))  (x4 : Int32) (s : mst) : Option (Int32 × mst) :=
    if 10 ≤ x4 then
    G_M_served_78 N s
    else
    ((G_M_hangsAt N s x4).bind fun r10 =>
    if r10.1 = (-1) then
    G_M_served_71 N rec26 x4 0 x4 r10.2
    else
    ((G_M_feeds N r10.2 (r10.1 / 6) (r10.1 - r10.1 / 6 * 6)).bind fun r13 =>
    G_M_served_71 N rec26 x4 r13.1 x4 r13.2))
theorem sGB_M_served_26 {h0 : Nat → pm_C} {B : Nat} {D : Nat → pd} {hi z N : Nat} (h : FX D hi) {rec26 : Int32 → pm_S → Option (Int32 × pm_S)} {grec26 : Int32 → mst → Option (Int32 × mst)} (hrec26 : ∀ (y1 : Int32) (s : mst), rec26 y1 (mkM h0 B D hi z s) = (grec26 y1 s).map (cvM h0 B D hi z)) {x4 : Int32} {s : mst} : B_M_served_26 N rec26 (B + 85) x4 (mkM h0 B D hi z s) = (GB_M_served_26 N grec26 x4 s).map (cvM h0 B D hi z) := by
  simp only [B_M_served_26, GB_M_served_26, ajm_110 h, rdm_85_36 h, sg_Lng_bitCount h, sg_M_feeds h, sg_M_hangsAt h, sg_M_isWorld h, sg_M_lay h, sjm_110 h, wrm_85_0 h, sG_M_served_191 h, sG_M_served_84 h, sG_M_served_78 h, sG_M_served_71 h hrec26, hrec26, Option.bind_some, Option.map_bind, Option.bind_map, Option.map_some, Option.map_none, Option.bind_none, apply_ite (Option.map _), if_true, Function.comp_def, cvM]
  all_goals rfl
def G_M_served_26 (N : Nat)   : Nat → Int32 → mst → Option (Int32 × mst)
  | 0 => fun _ _ => none
  | n + 1 => fun x4 s => GB_M_served_26 N  (G_M_served_26 N   n)  x4 s
theorem sG_M_served_26 {h0 : Nat → pm_C} {B : Nat} {D : Nat → pd} {hi z N : Nat} (h : FX D hi)    : ∀ (n : Nat) (x4 : Int32) (s : mst), F_M_served_26 N  (B + 85) n x4 (mkM h0 B D hi z s) = (G_M_served_26 N   n x4 s).map (cvM h0 B D hi z) := by
  intro n
  induction n with
  | zero => intro x4 s; rfl
  | succ n ih => intro x4 s; exact sGB_M_served_26 h  ih
def G_M_served (N : Nat) (s : mst) (p0 : Int32) (p1 : Int32) (p2 : Int32) : Option (Int32 × mst) :=
    (G_M_isWorld N (wrI s 85 0 0) p0 p1).bind fun r2 =>
    if r2.1 = 0 then
    some ((-1), r2.2)
    else
    ((G_M_lay N r2.2 p0 p1 p2).bind fun s3 =>
    G_M_served_26 N  N 0 s3)
theorem sg_M_served {h0 : Nat → pm_C} {B : Nat} {D : Nat → pd} {hi z N : Nat} (h : FX D hi) {p0 : Int32} {p1 : Int32} {p2 : Int32} {s : mst} : F_M_served N (mkM h0 B D hi z s) (B + 85) p0 p1 p2 = (G_M_served N s p0 p1 p2).map (cvM h0 B D hi z) := by
  simp only [F_M_served, G_M_served, ajm_110 h, rdm_85_36 h, sg_Lng_bitCount h, sg_M_feeds h, sg_M_hangsAt h, sg_M_isWorld h, sg_M_lay h, sjm_110 h, wrm_85_0 h, sG_M_served_191 h, sG_M_served_84 h, sG_M_served_78 h, sG_M_served_26 h, rcm_85 h, Option.bind_some, Option.map_bind, Option.bind_map, Option.map_some, Option.map_none, Option.bind_none, apply_ite (Option.map _), if_true, Function.comp_def, cvM]
  all_goals rfl
def G_M_neighbours_22 (N : Nat)   (s : mst) : Option (Int32 × mst) :=
    some ((-1), s)
theorem sG_M_neighbours_22 {h0 : Nat → pm_C} {B : Nat} {D : Nat → pd} {hi z N : Nat} (h : FX D hi)    {s : mst} : F_M_neighbours_22 N   (mkM h0 B D hi z s) = (G_M_neighbours_22 N   s).map (cvM h0 B D hi z) := by
  simp only [F_M_neighbours_22, G_M_neighbours_22, aim_109 h, rdm_85_35 h, sg_M_farNode h, sg_M_hangsAt h, sg_M_isNumberOfHouse h, sg_M_isWorld h, sg_M_lay h, sg_M_sound h, wrm_85_0 h, Option.bind_some, Option.map_bind, Option.bind_map, Option.map_some, Option.map_none, Option.bind_none, apply_ite (Option.map _), if_true, Function.comp_def, cvM]
  all_goals rfl
def G_M_neighbours_140 (N : Nat)  (x6 : Int32) (s : mst) : Option (Int32 × mst) :=
    some (x6, s)
theorem sG_M_neighbours_140 {h0 : Nat → pm_C} {B : Nat} {D : Nat → pd} {hi z N : Nat} (h : FX D hi)   {x6 : Int32} {s : mst} : F_M_neighbours_140 N  x6 (mkM h0 B D hi z s) = (G_M_neighbours_140 N  x6 s).map (cvM h0 B D hi z) := by
  simp only [F_M_neighbours_140, G_M_neighbours_140, aim_109 h, rdm_85_35 h, sg_M_farNode h, sg_M_hangsAt h, sg_M_isNumberOfHouse h, sg_M_isWorld h, sg_M_lay h, sg_M_sound h, wrm_85_0 h, sG_M_neighbours_22 h, Option.bind_some, Option.map_bind, Option.bind_map, Option.map_some, Option.map_none, Option.bind_none, apply_ite (Option.map _), if_true, Function.comp_def, cvM]
  all_goals rfl
def G_M_neighbours_131 (N : Nat) (rec71 : Int32 → Int32 → mst → Option (Int32 × mst)) (x4 : Int32) (x7 : Int32) (t0 : Int32) (t1 : Int32) (s : mst) : Option (Int32 × mst) :=
    rec71 (t1 ||| t0) (x7 + 1) s
theorem sG_M_neighbours_131 {h0 : Nat → pm_C} {B : Nat} {D : Nat → pd} {hi z N : Nat} (h : FX D hi) {rec71 : Int32 → Int32 → pm_S → Option (Int32 × pm_S)} {grec71 : Int32 → Int32 → mst → Option (Int32 × mst)} (hrec71 : ∀ (y1 : Int32) (y2 : Int32) (s : mst), rec71 y1 y2 (mkM h0 B D hi z s) = (grec71 y1 y2 s).map (cvM h0 B D hi z)) {x4 : Int32} {x7 : Int32} {t0 : Int32} {t1 : Int32} {s : mst} : F_M_neighbours_131 N rec71 (B + 85) x4 x7 t0 t1 (mkM h0 B D hi z s) = (G_M_neighbours_131 N grec71 x4 x7 t0 t1 s).map (cvM h0 B D hi z) := by
  simp only [F_M_neighbours_131, G_M_neighbours_131, aim_109 h, rdm_85_35 h, sg_M_farNode h, sg_M_hangsAt h, sg_M_isNumberOfHouse h, sg_M_isWorld h, sg_M_lay h, sg_M_sound h, wrm_85_0 h, sG_M_neighbours_22 h, sG_M_neighbours_140 h, hrec71, Option.bind_some, Option.map_bind, Option.bind_map, Option.map_some, Option.map_none, Option.bind_none, apply_ite (Option.map _), if_true, Function.comp_def, cvM]
  all_goals rfl
def G_M_neighbours_130 (N : Nat) (rec71 : Int32 → Int32 → mst → Option (Int32 × mst)) (x4 : Int32) (x7 : Int32) (t0 : Int32) (s : mst) : Option (Int32 × mst) :=
    G_M_neighbours_131 N rec71 x4 x7 0 t0 s
theorem sG_M_neighbours_130 {h0 : Nat → pm_C} {B : Nat} {D : Nat → pd} {hi z N : Nat} (h : FX D hi) {rec71 : Int32 → Int32 → pm_S → Option (Int32 × pm_S)} {grec71 : Int32 → Int32 → mst → Option (Int32 × mst)} (hrec71 : ∀ (y1 : Int32) (y2 : Int32) (s : mst), rec71 y1 y2 (mkM h0 B D hi z s) = (grec71 y1 y2 s).map (cvM h0 B D hi z)) {x4 : Int32} {x7 : Int32} {t0 : Int32} {s : mst} : F_M_neighbours_130 N rec71 (B + 85) x4 x7 t0 (mkM h0 B D hi z s) = (G_M_neighbours_130 N grec71 x4 x7 t0 s).map (cvM h0 B D hi z) := by
  simp only [F_M_neighbours_130, G_M_neighbours_130, aim_109 h, rdm_85_35 h, sg_M_farNode h, sg_M_hangsAt h, sg_M_isNumberOfHouse h, sg_M_isWorld h, sg_M_lay h, sg_M_sound h, wrm_85_0 h, sG_M_neighbours_22 h, sG_M_neighbours_140 h, sG_M_neighbours_131 h hrec71, hrec71, Option.bind_some, Option.map_bind, Option.bind_map, Option.map_some, Option.map_none, Option.bind_none, apply_ite (Option.map _), if_true, Function.comp_def, cvM]
  all_goals rfl
def GB_M_neighbours_71 (N : Nat)  (rec71 : Int32 → Int32 → mst → Option (Int32 × mst)) (x4 : Int32) (x6 : Int32) (x7 : Int32) (s : mst) : Option (Int32 × mst) :=
    if 10 ≤ x7 then
    G_M_neighbours_140 N x6 s
    else
    ((G_M_hangsAt N s x7).bind fun r12 =>
    if x7 = x4 then
    G_M_neighbours_130 N rec71 x4 x7 x6 r12.2
    else
    (if r12.1 = (-1) then
    G_M_neighbours_130 N rec71 x4 x7 x6 r12.2
    else
    ((G_M_farNode N r12.2 (r12.1 / 6) (r12.1 - r12.1 / 6 * 6)).bind fun r14 =>
    (rdA r14.2 109 462 r14.1).bind fun v15 =>
    if v15 = 0 then
    G_M_neighbours_130 N rec71 x4 x7 x6 r14.2
    else
    G_M_neighbours_131 N rec71 x4 x7 (1 <<< (x7 &&& 31)) x6 r14.2)))
theorem sGB_M_neighbours_71 {h0 : Nat → pm_C} {B : Nat} {D : Nat → pd} {hi z N : Nat} (h : FX D hi) {rec71 : Int32 → Int32 → pm_S → Option (Int32 × pm_S)} {grec71 : Int32 → Int32 → mst → Option (Int32 × mst)} (hrec71 : ∀ (y1 : Int32) (y2 : Int32) (s : mst), rec71 y1 y2 (mkM h0 B D hi z s) = (grec71 y1 y2 s).map (cvM h0 B D hi z)) {x4 : Int32} {x6 : Int32} {x7 : Int32} {s : mst} : B_M_neighbours_71 N rec71 (B + 85) x4 x6 x7 (mkM h0 B D hi z s) = (GB_M_neighbours_71 N grec71 x4 x6 x7 s).map (cvM h0 B D hi z) := by
  simp only [B_M_neighbours_71, GB_M_neighbours_71, aim_109 h, rdm_85_35 h, sg_M_farNode h, sg_M_hangsAt h, sg_M_isNumberOfHouse h, sg_M_isWorld h, sg_M_lay h, sg_M_sound h, wrm_85_0 h, sG_M_neighbours_22 h, sG_M_neighbours_140 h, sG_M_neighbours_131 h hrec71, sG_M_neighbours_130 h hrec71, hrec71, Option.bind_some, Option.map_bind, Option.bind_map, Option.map_some, Option.map_none, Option.bind_none, apply_ite (Option.map _), if_true, Function.comp_def, cvM]
  all_goals rfl
def G_M_neighbours_71 (N : Nat)  (x4 : Int32) : Nat → Int32 → Int32 → mst → Option (Int32 × mst)
  | 0 => fun _ _ _ => none
  | n + 1 => fun x6 x7 s => GB_M_neighbours_71 N  (G_M_neighbours_71 N  x4 n) x4 x6 x7 s
theorem sG_M_neighbours_71 {h0 : Nat → pm_C} {B : Nat} {D : Nat → pd} {hi z N : Nat} (h : FX D hi)   {x4 : Int32} : ∀ (n : Nat) (x6 : Int32) (x7 : Int32) (s : mst), F_M_neighbours_71 N  (B + 85) x4 n x6 x7 (mkM h0 B D hi z s) = (G_M_neighbours_71 N  x4 n x6 x7 s).map (cvM h0 B D hi z) := by
  intro n
  induction n with
  | zero => intro x6 x7 s; rfl
  | succ n ih => intro x6 x7 s; exact sGB_M_neighbours_71 h  ih
def G_M_neighbours (N : Nat) (s : mst) (p0 : Int32) (p1 : Int32) (p2 : Int32) (p3 : Int32) : Option (Int32 × mst) :=
    (G_M_isWorld N (wrI s 85 0 0) p0 p1).bind fun r2 =>
    if r2.1 = 0 then
    G_M_neighbours_22 N r2.2
    else
    ((G_M_isNumberOfHouse N r2.2 p3).bind fun r4 =>
    if r4.1 = 0 then
    G_M_neighbours_22 N r4.2
    else
    ((G_M_lay N r4.2 p0 p1 p2).bind fun s5 =>
    (G_M_hangsAt N s5 p3).bind fun r7 =>
    if r7.1 = (-1) then
    some ((-1), r7.2)
    else
    ((G_M_farNode N r7.2 (r7.1 / 6) (r7.1 - r7.1 / 6 * 6)).bind fun r9 =>
    (G_M_sound N r9.2 r9.1).bind fun s10 =>
    G_M_neighbours_71 N p3 N 0 0 s10)))
theorem sg_M_neighbours {h0 : Nat → pm_C} {B : Nat} {D : Nat → pd} {hi z N : Nat} (h : FX D hi) {p0 : Int32} {p1 : Int32} {p2 : Int32} {p3 : Int32} {s : mst} : F_M_neighbours N (mkM h0 B D hi z s) (B + 85) p0 p1 p2 p3 = (G_M_neighbours N s p0 p1 p2 p3).map (cvM h0 B D hi z) := by
  simp only [F_M_neighbours, G_M_neighbours, aim_109 h, rdm_85_35 h, sg_M_farNode h, sg_M_hangsAt h, sg_M_isNumberOfHouse h, sg_M_isWorld h, sg_M_lay h, sg_M_sound h, wrm_85_0 h, sG_M_neighbours_22 h, sG_M_neighbours_140 h, sG_M_neighbours_71 h, rcm_85 h, Option.bind_some, Option.map_bind, Option.bind_map, Option.map_some, Option.map_none, Option.bind_none, apply_ite (Option.map _), if_true, Function.comp_def, cvM]
  all_goals rfl
def G_M_spare_40 (N : Nat)   (s : mst) : Option (Int32 × mst) :=
    some ((-1), s)
theorem sG_M_spare_40 {h0 : Nat → pm_C} {B : Nat} {D : Nat → pd} {hi z N : Nat} (h : FX D hi)    {s : mst} : F_M_spare_40 N   (mkM h0 B D hi z s) = (G_M_spare_40 N   s).map (cvM h0 B D hi z) := by
  simp only [F_M_spare_40, G_M_spare_40, aim_106 h, aim_107 h, aim_87 h, aim_91 h, rdm_85_10 h, rdm_85_26 h, rdm_85_27 h, rdm_85_6 h, sg_M_comesTo h, sg_M_feeds h, sg_M_isIn h, sg_M_isWorld h, sg_M_lay h, wrm_85_0 h, Option.bind_some, Option.map_bind, Option.bind_map, Option.map_some, Option.map_none, Option.bind_none, apply_ite (Option.map _), if_true, Function.comp_def, cvM]
  all_goals rfl
def G_M_spare_146 (N : Nat)  (x5 : Int32) (s : mst) : Option (Int32 × mst) :=
    some (x5, s)
theorem sG_M_spare_146 {h0 : Nat → pm_C} {B : Nat} {D : Nat → pd} {hi z N : Nat} (h : FX D hi)   {x5 : Int32} {s : mst} : F_M_spare_146 N  x5 (mkM h0 B D hi z s) = (G_M_spare_146 N  x5 s).map (cvM h0 B D hi z) := by
  simp only [F_M_spare_146, G_M_spare_146, aim_106 h, aim_107 h, aim_87 h, aim_91 h, rdm_85_10 h, rdm_85_26 h, rdm_85_27 h, rdm_85_6 h, sg_M_comesTo h, sg_M_feeds h, sg_M_isIn h, sg_M_isWorld h, sg_M_lay h, wrm_85_0 h, sG_M_spare_40 h, Option.bind_some, Option.map_bind, Option.bind_map, Option.map_some, Option.map_none, Option.bind_none, apply_ite (Option.map _), if_true, Function.comp_def, cvM]
  all_goals rfl
def G_M_spare_137 (N : Nat) (rec63 : Int32 → Int32 → mst → Option (Int32 × mst)) (x1 : Int32) (x4 : Int32) (x6 : Int32) (t0 : Int32) (t1 : Int32) (s : mst) : Option (Int32 × mst) :=
    rec63 (t1 ||| t0) (x6 + 1) s
theorem sG_M_spare_137 {h0 : Nat → pm_C} {B : Nat} {D : Nat → pd} {hi z N : Nat} (h : FX D hi) {rec63 : Int32 → Int32 → pm_S → Option (Int32 × pm_S)} {grec63 : Int32 → Int32 → mst → Option (Int32 × mst)} (hrec63 : ∀ (y1 : Int32) (y2 : Int32) (s : mst), rec63 y1 y2 (mkM h0 B D hi z s) = (grec63 y1 y2 s).map (cvM h0 B D hi z)) {x1 : Int32} {x4 : Int32} {x6 : Int32} {t0 : Int32} {t1 : Int32} {s : mst} : F_M_spare_137 N rec63 (B + 85) x1 x4 x6 t0 t1 (mkM h0 B D hi z s) = (G_M_spare_137 N grec63 x1 x4 x6 t0 t1 s).map (cvM h0 B D hi z) := by
  simp only [F_M_spare_137, G_M_spare_137, aim_106 h, aim_107 h, aim_87 h, aim_91 h, rdm_85_10 h, rdm_85_26 h, rdm_85_27 h, rdm_85_6 h, sg_M_comesTo h, sg_M_feeds h, sg_M_isIn h, sg_M_isWorld h, sg_M_lay h, wrm_85_0 h, sG_M_spare_40 h, sG_M_spare_146 h, hrec63, Option.bind_some, Option.map_bind, Option.bind_map, Option.map_some, Option.map_none, Option.bind_none, apply_ite (Option.map _), if_true, Function.comp_def, cvM]
  all_goals rfl
def G_M_spare_136 (N : Nat) (rec63 : Int32 → Int32 → mst → Option (Int32 × mst)) (x1 : Int32) (x4 : Int32) (x6 : Int32) (t0 : Int32) (s : mst) : Option (Int32 × mst) :=
    G_M_spare_137 N rec63 x1 x4 x6 0 t0 s
theorem sG_M_spare_136 {h0 : Nat → pm_C} {B : Nat} {D : Nat → pd} {hi z N : Nat} (h : FX D hi) {rec63 : Int32 → Int32 → pm_S → Option (Int32 × pm_S)} {grec63 : Int32 → Int32 → mst → Option (Int32 × mst)} (hrec63 : ∀ (y1 : Int32) (y2 : Int32) (s : mst), rec63 y1 y2 (mkM h0 B D hi z s) = (grec63 y1 y2 s).map (cvM h0 B D hi z)) {x1 : Int32} {x4 : Int32} {x6 : Int32} {t0 : Int32} {s : mst} : F_M_spare_136 N rec63 (B + 85) x1 x4 x6 t0 (mkM h0 B D hi z s) = (G_M_spare_136 N grec63 x1 x4 x6 t0 s).map (cvM h0 B D hi z) := by
  simp only [F_M_spare_136, G_M_spare_136, aim_106 h, aim_107 h, aim_87 h, aim_91 h, rdm_85_10 h, rdm_85_26 h, rdm_85_27 h, rdm_85_6 h, sg_M_comesTo h, sg_M_feeds h, sg_M_isIn h, sg_M_isWorld h, sg_M_lay h, wrm_85_0 h, sG_M_spare_40 h, sG_M_spare_146 h, sG_M_spare_137 h hrec63, hrec63, Option.bind_some, Option.map_bind, Option.bind_map, Option.map_some, Option.map_none, Option.bind_none, apply_ite (Option.map _), if_true, Function.comp_def, cvM]
  all_goals rfl
def GB_M_spare_63 (N : Nat)  (rec63 : Int32 → Int32 → mst → Option (Int32 × mst)) (x1 : Int32) (x4 : Int32) (x5 : Int32) (x6 : Int32) (s : mst) : Option (Int32 × mst) :=
    (rdA s 91 49 ((7 * x1) + x4)).bind fun v11 =>
    if v11 ≤ x6 then
    G_M_spare_146 N x5 s
    else
    ((rdA s 107 42 ((6 * x4) + x6)).bind fun v12 =>
    if v12 = (-1) then
    ((rdA s 106 42 ((6 * x4) + x6)).bind fun v13 =>
    if v13 = (-1) then
    ((G_M_feeds N s x4 x6).bind fun r15 =>
    if (lg_cmp r15.1 0) = 0 then
    G_M_spare_136 N rec63 x1 x4 x6 x5 r15.2
    else
    G_M_spare_137 N rec63 x1 x4 x6 (1 <<< (x6 &&& 31)) x5 r15.2)
    else
    G_M_spare_136 N rec63 x1 x4 x6 x5 s)
    else
    G_M_spare_136 N rec63 x1 x4 x6 x5 s)
theorem sGB_M_spare_63 {h0 : Nat → pm_C} {B : Nat} {D : Nat → pd} {hi z N : Nat} (h : FX D hi) {rec63 : Int32 → Int32 → pm_S → Option (Int32 × pm_S)} {grec63 : Int32 → Int32 → mst → Option (Int32 × mst)} (hrec63 : ∀ (y1 : Int32) (y2 : Int32) (s : mst), rec63 y1 y2 (mkM h0 B D hi z s) = (grec63 y1 y2 s).map (cvM h0 B D hi z)) {x1 : Int32} {x4 : Int32} {x5 : Int32} {x6 : Int32} {s : mst} : B_M_spare_63 N rec63 (B + 85) x1 x4 x5 x6 (mkM h0 B D hi z s) = (GB_M_spare_63 N grec63 x1 x4 x5 x6 s).map (cvM h0 B D hi z) := by
  simp only [B_M_spare_63, GB_M_spare_63, aim_106 h, aim_107 h, aim_87 h, aim_91 h, rdm_85_10 h, rdm_85_26 h, rdm_85_27 h, rdm_85_6 h, sg_M_comesTo h, sg_M_feeds h, sg_M_isIn h, sg_M_isWorld h, sg_M_lay h, wrm_85_0 h, sG_M_spare_40 h, sG_M_spare_146 h, sG_M_spare_137 h hrec63, sG_M_spare_136 h hrec63, hrec63, Option.bind_some, Option.map_bind, Option.bind_map, Option.map_some, Option.map_none, Option.bind_none, apply_ite (Option.map _), if_true, Function.comp_def, cvM]
  all_goals rfl
def G_M_spare_63 (N : Nat)  (x1 : Int32) (x4 : Int32) : Nat → Int32 → Int32 → mst → Option (Int32 × mst)
  | 0 => fun _ _ _ => none
  | n + 1 => fun x5 x6 s => GB_M_spare_63 N  (G_M_spare_63 N  x1 x4 n) x1 x4 x5 x6 s
theorem sG_M_spare_63 {h0 : Nat → pm_C} {B : Nat} {D : Nat → pd} {hi z N : Nat} (h : FX D hi)   {x1 : Int32} {x4 : Int32} : ∀ (n : Nat) (x5 : Int32) (x6 : Int32) (s : mst), F_M_spare_63 N  (B + 85) x1 x4 n x5 x6 (mkM h0 B D hi z s) = (G_M_spare_63 N  x1 x4 n x5 x6 s).map (cvM h0 B D hi z) := by
  intro n
  induction n with
  | zero => intro x5 x6 s; rfl
  | succ n ih => intro x5 x6 s; exact sGB_M_spare_63 h  ih
def G_M_spare (N : Nat) (s : mst) (p0 : Int32) (p1 : Int32) (p2 : Int32) : Option (Int32 × mst) :=
    (G_M_isWorld N (wrI s 85 0 0) p0 p1).bind fun r2 =>
    if r2.1 = 0 then
    G_M_spare_40 N r2.2
    else
    ((rdA r2.2 87 7 p0).bind fun v3 =>
    (G_M_isIn N r2.2 p2 0 (v3 - 1)).bind fun r5 =>
    if r5.1 = 0 then
    G_M_spare_40 N r5.2
    else
    ((G_M_comesTo N r5.2 p0 p2).bind fun r7 =>
    if r7.1 = (-1) then
    G_M_spare_40 N r7.2
    else
    ((G_M_lay N r7.2 p0 p1 0).bind fun s8 =>
    (G_M_comesTo N s8 p0 p2).bind fun r10 =>
    G_M_spare_63 N p0 r10.1 N 0 0 r10.2)))
theorem sg_M_spare {h0 : Nat → pm_C} {B : Nat} {D : Nat → pd} {hi z N : Nat} (h : FX D hi) {p0 : Int32} {p1 : Int32} {p2 : Int32} {s : mst} : F_M_spare N (mkM h0 B D hi z s) (B + 85) p0 p1 p2 = (G_M_spare N s p0 p1 p2).map (cvM h0 B D hi z) := by
  simp only [F_M_spare, G_M_spare, aim_106 h, aim_107 h, aim_87 h, aim_91 h, rdm_85_10 h, rdm_85_26 h, rdm_85_27 h, rdm_85_6 h, sg_M_comesTo h, sg_M_feeds h, sg_M_isIn h, sg_M_isWorld h, sg_M_lay h, wrm_85_0 h, sG_M_spare_40 h, sG_M_spare_146 h, sG_M_spare_63 h, rcm_85 h, Option.bind_some, Option.map_bind, Option.bind_map, Option.map_some, Option.map_none, Option.bind_none, apply_ite (Option.map _), if_true, Function.comp_def, cvM]
  all_goals rfl
def G_M_test_74 (N : Nat)   (s : mst) : Option (Int32 × mst) :=
    some ((-1), s)
theorem sG_M_test_74 {h0 : Nat → pm_C} {B : Nat} {D : Nat → pd} {hi z N : Nat} (h : FX D hi)    {s : mst} : F_M_test_74 N   (mkM h0 B D hi z s) = (G_M_test_74 N   s).map (cvM h0 B D hi z) := by
  simp only [F_M_test_74, G_M_test_74, aim_111 h, rdm_85_37 h, rdm_85_38 h, rdm_85_39 h, rdm_85_40 h, rdm_85_41 h, rdm_85_42 h, rdm_85_43 h, sg_M_isCable h, sg_M_isEnd h, sg_M_isIn h, sg_M_isPair h, sg_M_isPlan h, sim_111 h, sim_112 h, sim_113 h, sim_114 h, sim_115 h, sim_116 h, sim_117 h, wrm_85_0 h, Option.bind_some, Option.map_bind, Option.bind_map, Option.map_some, Option.map_none, Option.bind_none, apply_ite (Option.map _), if_true, Function.comp_def, cvM]
  all_goals rfl
def G_M_test_76 (N : Nat)  (x1 : Int32) (x2 : Int32) (x3 : Int32) (x4 : Int32) (x5 : Int32) (x6 : Int32) (x7 : Int32) (s : mst) : Option (Int32 × mst) :=
    (rdA s 111 7 x1).bind fun v14 =>
    (stA 0 s 112 72 ((12 * x1) + v14) x2).bind fun s15 =>
    (stA 0 s15 113 72 ((12 * x1) + v14) x3).bind fun s16 =>
    (stA 0 s16 114 72 ((12 * x1) + v14) x4).bind fun s17 =>
    (stA 0 s17 115 72 ((12 * x1) + v14) x5).bind fun s18 =>
    (stA 0 s18 116 72 ((12 * x1) + v14) x6).bind fun s19 =>
    (stA 0 s19 117 72 ((12 * x1) + v14) x7).bind fun s20 =>
    (rdA s20 111 7 x1).bind fun v21 =>
    (stA 0 s20 111 7 x1 (v21 + 1)).bind fun s22 =>
    (rdA s22 111 7 x1).bind fun v23 =>
    some (v23 - 1, s22)
theorem sG_M_test_76 {h0 : Nat → pm_C} {B : Nat} {D : Nat → pd} {hi z N : Nat} (h : FX D hi)   {x1 : Int32} {x2 : Int32} {x3 : Int32} {x4 : Int32} {x5 : Int32} {x6 : Int32} {x7 : Int32} {s : mst} : F_M_test_76 N  (B + 85) x1 x2 x3 x4 x5 x6 x7 (mkM h0 B D hi z s) = (G_M_test_76 N  x1 x2 x3 x4 x5 x6 x7 s).map (cvM h0 B D hi z) := by
  simp only [F_M_test_76, G_M_test_76, aim_111 h, rdm_85_37 h, rdm_85_38 h, rdm_85_39 h, rdm_85_40 h, rdm_85_41 h, rdm_85_42 h, rdm_85_43 h, sg_M_isCable h, sg_M_isEnd h, sg_M_isIn h, sg_M_isPair h, sg_M_isPlan h, sim_111 h, sim_112 h, sim_113 h, sim_114 h, sim_115 h, sim_116 h, sim_117 h, wrm_85_0 h, sG_M_test_74 h, Option.bind_some, Option.map_bind, Option.bind_map, Option.map_some, Option.map_none, Option.bind_none, apply_ite (Option.map _), if_true, Function.comp_def, cvM]
  all_goals rfl
def G_M_test (N : Nat) (s : mst) (p0 : Int32) (p1 : Int32) (p2 : Int32) (p3 : Int32) (p4 : Int32) (p5 : Int32) (p6 : Int32) : Option (Int32 × mst) :=
    (G_M_isPlan N (wrI s 85 0 0) p0).bind fun r2 =>
    if r2.1 = 0 then
    G_M_test_74 N r2.2
    else
    ((rdA r2.2 111 7 p0).bind fun v3 =>
    if v3 = 12 then
    G_M_test_74 N r2.2
    else
    ((G_M_isIn N r2.2 p1 0 1).bind fun r5 =>
    if r5.1 = 0 then
    G_M_test_74 N r5.2
    else
    ((G_M_isPair N r5.2 p0 p2 p3).bind fun r7 =>
    if r7.1 = 0 then
    G_M_test_74 N r7.2
    else
    ((G_M_isEnd N r7.2 p4).bind fun r9 =>
    if r9.1 = 0 then
    G_M_test_74 N r9.2
    else
    (if p1 = 0 then
    ((G_M_isCable N r9.2 p0 p5).bind fun r11 =>
    if r11.1 = 0 then
    G_M_test_74 N r11.2
    else
    ((G_M_isEnd N r11.2 p6).bind fun r13 =>
    if r13.1 = 0 then
    G_M_test_74 N r13.2
    else
    G_M_test_76 N p0 p1 p2 p3 p4 p5 p6 r13.2))
    else
    G_M_test_76 N p0 p1 p2 p3 p4 p5 p6 r9.2)))))
theorem sg_M_test {h0 : Nat → pm_C} {B : Nat} {D : Nat → pd} {hi z N : Nat} (h : FX D hi) {p0 : Int32} {p1 : Int32} {p2 : Int32} {p3 : Int32} {p4 : Int32} {p5 : Int32} {p6 : Int32} {s : mst} : F_M_test N (mkM h0 B D hi z s) (B + 85) p0 p1 p2 p3 p4 p5 p6 = (G_M_test N s p0 p1 p2 p3 p4 p5 p6).map (cvM h0 B D hi z) := by
  simp only [F_M_test, G_M_test, aim_111 h, rdm_85_37 h, rdm_85_38 h, rdm_85_39 h, rdm_85_40 h, rdm_85_41 h, rdm_85_42 h, rdm_85_43 h, sg_M_isCable h, sg_M_isEnd h, sg_M_isIn h, sg_M_isPair h, sg_M_isPlan h, sim_111 h, sim_112 h, sim_113 h, sim_114 h, sim_115 h, sim_116 h, sim_117 h, wrm_85_0 h, sG_M_test_74 h, sG_M_test_76 h, rcm_85 h, Option.bind_some, Option.map_bind, Option.bind_map, Option.map_some, Option.map_none, Option.bind_none, apply_ite (Option.map _), if_true, Function.comp_def, cvM]
  all_goals rfl
