theorem pm_swd29 {x : Int32} (h0 : ¬ x = 0) (h1 : ¬ x = 1) (h2 : ¬ x = 2) (h3 : ¬ x = 3) (h4 : ¬ x = 4) (h5 : ¬ x = 5) (h6 : ¬ x = 6) (h7 : ¬ x = 7) (h8 : ¬ x = 8) (h9 : ¬ x = 9) (h10 : ¬ x = 10) (h11 : ¬ x = 11) (h12 : ¬ x = 12) (h13 : ¬ x = 13) (h14 : ¬ x = 14) (h15 : ¬ x = 15) (h16 : ¬ x = 16) (h17 : ¬ x = 17) (h18 : ¬ x = 18) (h19 : ¬ x = 19) (h20 : ¬ x = 20) (h21 : ¬ x = 21) (h22 : ¬ x = 22) (h23 : ¬ x = 23) (h24 : ¬ x = 24) (h25 : ¬ x = 25) (h26 : ¬ x = 26) (h27 : ¬ x = 27) (h28 : ¬ x = 28) (h29 : ¬ x = 29) : x.toInt < 0 ∨ 29 < x.toInt := by
  have a0 : x.toInt ≠ 0 := pm_ne h0
  have a1 : x.toInt ≠ 1 := pm_ne h1
  have a2 : x.toInt ≠ 2 := pm_ne h2
  have a3 : x.toInt ≠ 3 := pm_ne h3
  have a4 : x.toInt ≠ 4 := pm_ne h4
  have a5 : x.toInt ≠ 5 := pm_ne h5
  have a6 : x.toInt ≠ 6 := pm_ne h6
  have a7 : x.toInt ≠ 7 := pm_ne h7
  have a8 : x.toInt ≠ 8 := pm_ne h8
  have a9 : x.toInt ≠ 9 := pm_ne h9
  have a10 : x.toInt ≠ 10 := pm_ne h10
  have a11 : x.toInt ≠ 11 := pm_ne h11
  have a12 : x.toInt ≠ 12 := pm_ne h12
  have a13 : x.toInt ≠ 13 := pm_ne h13
  have a14 : x.toInt ≠ 14 := pm_ne h14
  have a15 : x.toInt ≠ 15 := pm_ne h15
  have a16 : x.toInt ≠ 16 := pm_ne h16
  have a17 : x.toInt ≠ 17 := pm_ne h17
  have a18 : x.toInt ≠ 18 := pm_ne h18
  have a19 : x.toInt ≠ 19 := pm_ne h19
  have a20 : x.toInt ≠ 20 := pm_ne h20
  have a21 : x.toInt ≠ 21 := pm_ne h21
  have a22 : x.toInt ≠ 22 := pm_ne h22
  have a23 : x.toInt ≠ 23 := pm_ne h23
  have a24 : x.toInt ≠ 24 := pm_ne h24
  have a25 : x.toInt ≠ 25 := pm_ne h25
  have a26 : x.toInt ≠ 26 := pm_ne h26
  have a27 : x.toInt ≠ 27 := pm_ne h27
  have a28 : x.toInt ≠ 28 := pm_ne h28
  have a29 : x.toInt ≠ 29 := pm_ne h29
  omega
theorem pE_i8 {G : pm_G} {call : pm_I → List Value → pm_S → pm_O → Prop} {mi : pm_I} {pc : Nat} {ls : pm_L} {st : List Value} {S S' : pm_S} {out : pm_O} {k : Nat} {mj : pm_I} {Bs : List Value} {r : Option Value} (hi : pm_at mi pc = some (.invokestatic k)) (hl : pg_m G (pi_co mi) k = some (mj, 8)) (hn : Bs.length = pi_na mj) (h8 : (st.map fun v => v.category).sum ≤ 8) (hL : (lg_sl Bs).length ≤ pi_L mj) (hc : call mj Bs S (r, S'))
    (e : pmE G call mi (pc + 3) ls (r.toList ++ st) S' out) : pmE G call mi pc ls (Bs.reverse ++ st) S out := by
  have hb : Bs.reverse.length = pi_na mj := by rw [List.length_reverse]; exact hn
  have h1 : (Bs.reverse ++ st).drop (pi_na mj) = st := by rw [← hb, List.drop_left]
  have h2 : (Bs.reverse ++ st).take (pi_na mj) = Bs.reverse := by rw [← hb, List.take_left]
  refine pE_call hi ?_ hc e
  show pm_inv G mi k (fun q => q == 0 || 4 ≤ q) (pc + 3) ls (Bs.reverse ++ st) S = _
  refine pm_inv_eq hl ?_
  show (if true && decide (pi_na mj ≤ (Bs.reverse ++ st).length) && decide ((((Bs.reverse ++ st).drop (pi_na mj)).map fun v => v.category).sum ≤ 8) && decide ((lg_sl ((Bs.reverse ++ st).take (pi_na mj)).reverse).length ≤ pi_L mj) then some (.inr (.inr (.inl (mj, ((Bs.reverse ++ st).take (pi_na mj)).reverse, (Bs.reverse ++ st).drop (pi_na mj))))) else none : Option pm_X) = _
  have hlen : pi_na mj ≤ (Bs.reverse ++ st).length := by
    rw [List.length_append, hb]; omega
  rw [h1, h2, List.reverse_reverse, if_pos (by simp only [Bool.true_and, Bool.and_eq_true, decide_eq_true_eq]; exact ⟨⟨hlen, h8⟩, hL⟩)]
def F_Law_law_1964 (cab : pm_S → Nat → Int32 → Int32 → Int32 → Nat → Option (Int32 × pm_S)) (N : Nat)   (S : pm_S) : Option (Int32 × pm_S) :=
    some (1, S)
set_option maxHeartbeats 4000000 in
set_option maxRecDepth 20000 in
theorem f_Law_law_1964 (cab : pm_S → Nat → Int32 → Int32 → Int32 → Nat → Option (Int32 × pm_S)) (sp : pm_I → List Value → pm_S → pm_O → Prop) (hcab : ∀ S a p0 p1 p2 o r, cab S a p0 p1 p2 o = some r → sp mi_Law_cable [.ref a, .int p0, .int p1, .int p2, .ref o] S (some (.int r.1), r.2)) (d N : Nat)   (S : pm_S)  (r : (Int32 × pm_S)) (h : F_Law_law_1964 cab N   S = some r) : pmE pG (pm_rel pG sp (d + 10)) mi_Law_law 1964 [none, none, none, none, none, none, none] [] S (some (.int r.1), r.2) := by
  unfold F_Law_law_1964 at h
  refine pE_jump 1 (pc' := 1965) (ls' := [none, none, none, none, none, none, none]) (st' := [.int 1]) (fun _ => rfl) ?_
  cases h
  exact pE_ret rfl rfl rfl
def F_Law_law_1958 (cab : pm_S → Nat → Int32 → Int32 → Int32 → Nat → Option (Int32 × pm_S)) (N : Nat) (rec23 : Int32 → pm_S → Option (Int32 × pm_S)) (x0 : Nat) (x1 : Nat) (x2 : Nat) (x3 : Nat) (x4 : Int32) (S : pm_S) : Option (Int32 × pm_S) :=
    rec23 (x4 + 9) S
set_option maxHeartbeats 4000000 in
set_option maxRecDepth 20000 in
theorem f_Law_law_1958 (cab : pm_S → Nat → Int32 → Int32 → Int32 → Nat → Option (Int32 × pm_S)) (sp : pm_I → List Value → pm_S → pm_O → Prop) (hcab : ∀ S a p0 p1 p2 o r, cab S a p0 p1 p2 o = some r → sp mi_Law_cable [.ref a, .int p0, .int p1, .int p2, .ref o] S (some (.int r.1), r.2)) (d N : Nat) (rec23 : Int32 → pm_S → Option (Int32 × pm_S)) (x0 : Nat) (x1 : Nat) (x2 : Nat) (x3 : Nat) (x4 : Int32) (S : pm_S) (hrec23 : ∀ (y1 : Int32) (U : pm_S) (r : (Int32 × pm_S)), rec23 y1 U = some r → pmE pG (pm_rel pG sp (d + 10)) mi_Law_law 23 [some (.ref x0), some (.ref x1), some (.ref x2), some (.ref x3), some (.int y1), none, none] [] U (some (.int r.1), r.2)) (r : (Int32 × pm_S)) (h : F_Law_law_1958 cab N rec23 x0 x1 x2 x3 x4 S = some r) : pmE pG (pm_rel pG sp (d + 10)) mi_Law_law 1958 [some (.ref x0), some (.ref x1), some (.ref x2), some (.ref x3), some (.int x4), none, none] [] S (some (.int r.1), r.2) := by
  unfold F_Law_law_1958 at h
  refine pE_jump 2 (pc' := 23) (ls' := [some (.ref x0), some (.ref x1), some (.ref x2), some (.ref x3), some (.int (x4 + 9)), none, none]) (st' := []) (fun _ => rfl) ?_
  exact hrec23 (x4 + 9) S _ h
def F_Law_law_1956 (cab : pm_S → Nat → Int32 → Int32 → Int32 → Nat → Option (Int32 × pm_S)) (N : Nat)   (S : pm_S) : Option (Int32 × pm_S) :=
    some (0, S)
set_option maxHeartbeats 4000000 in
set_option maxRecDepth 20000 in
theorem f_Law_law_1956 (cab : pm_S → Nat → Int32 → Int32 → Int32 → Nat → Option (Int32 × pm_S)) (sp : pm_I → List Value → pm_S → pm_O → Prop) (hcab : ∀ S a p0 p1 p2 o r, cab S a p0 p1 p2 o = some r → sp mi_Law_cable [.ref a, .int p0, .int p1, .int p2, .ref o] S (some (.int r.1), r.2)) (d N : Nat)   (S : pm_S)  (r : (Int32 × pm_S)) (h : F_Law_law_1956 cab N   S = some r) : pmE pG (pm_rel pG sp (d + 10)) mi_Law_law 1956 [none, none, none, none, none, none, none] [] S (some (.int r.1), r.2) := by
  unfold F_Law_law_1956 at h
  refine pE_jump 1 (pc' := 1957) (ls' := [none, none, none, none, none, none, none]) (st' := [.int 0]) (fun _ => rfl) ?_
  cases h
  exact pE_ret rfl rfl rfl
def F_Law_law_1933 (cab : pm_S → Nat → Int32 → Int32 → Int32 → Nat → Option (Int32 × pm_S)) (N : Nat) (rec23 : Int32 → pm_S → Option (Int32 × pm_S)) (x0 : Nat) (x1 : Nat) (x2 : Nat) (x3 : Nat) (x4 : Int32) (S : pm_S) : Option (Int32 × pm_S) :=
    (aI [0, 6] S x0 (x4 + 1)).bind fun v41 =>
    (F_BP_count N S x1 v41).bind fun (v43, S42) =>
    (aI [0, 6] S42 x0 (x4 + 1)).bind fun v44 =>
    (F_M_count N S42 x2 v44).bind fun (v46, S45) =>
    if v43 = v46 then
    F_Law_law_1958 cab N rec23 x0 x1 x2 x3 x4 S45
    else
    F_Law_law_1956 cab N S45
set_option maxHeartbeats 4000000 in
set_option maxRecDepth 20000 in
theorem f_Law_law_1933 (cab : pm_S → Nat → Int32 → Int32 → Int32 → Nat → Option (Int32 × pm_S)) (sp : pm_I → List Value → pm_S → pm_O → Prop) (hcab : ∀ S a p0 p1 p2 o r, cab S a p0 p1 p2 o = some r → sp mi_Law_cable [.ref a, .int p0, .int p1, .int p2, .ref o] S (some (.int r.1), r.2)) (d N : Nat) (rec23 : Int32 → pm_S → Option (Int32 × pm_S)) (x0 : Nat) (x1 : Nat) (x2 : Nat) (x3 : Nat) (x4 : Int32) (S : pm_S) (hrec23 : ∀ (y1 : Int32) (U : pm_S) (r : (Int32 × pm_S)), rec23 y1 U = some r → pmE pG (pm_rel pG sp (d + 10)) mi_Law_law 23 [some (.ref x0), some (.ref x1), some (.ref x2), some (.ref x3), some (.int y1), none, none] [] U (some (.int r.1), r.2)) (r : (Int32 × pm_S)) (h : F_Law_law_1933 cab N rec23 x0 x1 x2 x3 x4 S = some r) : pmE pG (pm_rel pG sp (d + 10)) mi_Law_law 1933 [some (.ref x0), some (.ref x1), some (.ref x2), some (.ref x3), some (.int x4), none, none] [] S (some (.int r.1), r.2) := by
  unfold F_Law_law_1933 at h
  refine pE_jump 5 (pc' := 1939) (ls' := [some (.ref x0), some (.ref x1), some (.ref x2), some (.ref x3), some (.int x4), none, none]) (st' := [.int (x4 + 1), .ref x0, .ref x1]) (fun _ => rfl) ?_
  obtain ⟨v41, hv41, h⟩ := obind h
  refine pE_aI rfl rfl hv41 ?_
  obtain ⟨⟨v43, S42⟩, hv43, h⟩ := obind h
  try dsimp only at h
  refine pE_iv (Bs := [.int v41]) (st := []) 1 rfl (Or.inl ⟨rfl, rfl⟩) rfl rfl (Nat.le_of_ble_eq_true rfl) (Nat.le_of_ble_eq_true rfl) (g_BP_count hv43) (f_BP_count sp (d + 8) N S x1 v41 _ hv43) ?_
  refine pE_jump 5 (pc' := 1949) (ls' := [some (.ref x0), some (.ref x1), some (.ref x2), some (.ref x3), some (.int x4), none, none]) (st' := [.int (x4 + 1), .ref x0, .ref x2, .int v43]) (fun _ => rfl) ?_
  obtain ⟨v44, hv44, h⟩ := obind h
  refine pE_aI rfl rfl hv44 ?_
  obtain ⟨⟨v46, S45⟩, hv46, h⟩ := obind h
  try dsimp only at h
  refine pE_iv (Bs := [.int v44]) (st := [.int v43]) 1 rfl (Or.inl ⟨rfl, rfl⟩) rfl rfl (Nat.le_of_ble_eq_true rfl) (Nat.le_of_ble_eq_true rfl) (g_M_count hv46) (f_M_count sp (d + 9) N S42 x2 v44 _ hv46) ?_
  refine pE_br (v43 = v46) rfl rfl (fun c47 => ?_) (fun c47 => ?_)
  · rw [if_pos c47] at h
    exact f_Law_law_1958 cab sp hcab d N rec23 x0 x1 x2 x3 x4 S45 hrec23 _ h
  · rw [if_neg c47] at h
    refine pE_weak [none, none, none, none, none, none, none] trivial ?_
    exact f_Law_law_1956 cab sp hcab d N S45 _ h
def F_Law_law_1931 (cab : pm_S → Nat → Int32 → Int32 → Int32 → Nat → Option (Int32 × pm_S)) (N : Nat)   (S : pm_S) : Option (Int32 × pm_S) :=
    some (0, S)
set_option maxHeartbeats 4000000 in
set_option maxRecDepth 20000 in
theorem f_Law_law_1931 (cab : pm_S → Nat → Int32 → Int32 → Int32 → Nat → Option (Int32 × pm_S)) (sp : pm_I → List Value → pm_S → pm_O → Prop) (hcab : ∀ S a p0 p1 p2 o r, cab S a p0 p1 p2 o = some r → sp mi_Law_cable [.ref a, .int p0, .int p1, .int p2, .ref o] S (some (.int r.1), r.2)) (d N : Nat)   (S : pm_S)  (r : (Int32 × pm_S)) (h : F_Law_law_1931 cab N   S = some r) : pmE pG (pm_rel pG sp (d + 10)) mi_Law_law 1931 [none, none, none, none, none, none, none] [] S (some (.int r.1), r.2) := by
  unfold F_Law_law_1931 at h
  refine pE_jump 1 (pc' := 1932) (ls' := [none, none, none, none, none, none, none]) (st' := [.int 0]) (fun _ => rfl) ?_
  cases h
  exact pE_ret rfl rfl rfl
def F_Law_law_1872 (cab : pm_S → Nat → Int32 → Int32 → Int32 → Nat → Option (Int32 × pm_S)) (N : Nat) (rec23 : Int32 → pm_S → Option (Int32 × pm_S)) (x0 : Nat) (x1 : Nat) (x2 : Nat) (x3 : Nat) (x4 : Int32) (S : pm_S) : Option (Int32 × pm_S) :=
    (aI [0, 6] S x0 (x4 + 1)).bind fun v48 =>
    (aI [0, 6] S x0 (x4 + 2)).bind fun v49 =>
    (aI [0, 6] S x0 (x4 + 3)).bind fun v50 =>
    (aI [0, 6] S x0 (x4 + 4)).bind fun v51 =>
    (F_BP_moves N S x1 v48 v49 v50 v51).bind fun (v53, S52) =>
    (aI [0, 6] S52 x0 (x4 + 1)).bind fun v54 =>
    (aI [0, 6] S52 x0 (x4 + 2)).bind fun v55 =>
    (aI [0, 6] S52 x0 (x4 + 3)).bind fun v56 =>
    (aI [0, 6] S52 x0 (x4 + 4)).bind fun v57 =>
    (F_M_moves N S52 x2 v54 v55 v56 v57).bind fun (v59, S58) =>
    if v53 = v59 then
    F_Law_law_1958 cab N rec23 x0 x1 x2 x3 x4 S58
    else
    F_Law_law_1931 cab N S58
set_option maxHeartbeats 4000000 in
set_option maxRecDepth 20000 in
theorem f_Law_law_1872 (cab : pm_S → Nat → Int32 → Int32 → Int32 → Nat → Option (Int32 × pm_S)) (sp : pm_I → List Value → pm_S → pm_O → Prop) (hcab : ∀ S a p0 p1 p2 o r, cab S a p0 p1 p2 o = some r → sp mi_Law_cable [.ref a, .int p0, .int p1, .int p2, .ref o] S (some (.int r.1), r.2)) (d N : Nat) (rec23 : Int32 → pm_S → Option (Int32 × pm_S)) (x0 : Nat) (x1 : Nat) (x2 : Nat) (x3 : Nat) (x4 : Int32) (S : pm_S) (hrec23 : ∀ (y1 : Int32) (U : pm_S) (r : (Int32 × pm_S)), rec23 y1 U = some r → pmE pG (pm_rel pG sp (d + 10)) mi_Law_law 23 [some (.ref x0), some (.ref x1), some (.ref x2), some (.ref x3), some (.int y1), none, none] [] U (some (.int r.1), r.2)) (r : (Int32 × pm_S)) (h : F_Law_law_1872 cab N rec23 x0 x1 x2 x3 x4 S = some r) : pmE pG (pm_rel pG sp (d + 10)) mi_Law_law 1872 [some (.ref x0), some (.ref x1), some (.ref x2), some (.ref x3), some (.int x4), none, none] [] S (some (.int r.1), r.2) := by
  unfold F_Law_law_1872 at h
  refine pE_jump 5 (pc' := 1878) (ls' := [some (.ref x0), some (.ref x1), some (.ref x2), some (.ref x3), some (.int x4), none, none]) (st' := [.int (x4 + 1), .ref x0, .ref x1]) (fun _ => rfl) ?_
  obtain ⟨v48, hv48, h⟩ := obind h
  refine pE_aI rfl rfl hv48 ?_
  refine pE_jump 4 (pc' := 1884) (ls' := [some (.ref x0), some (.ref x1), some (.ref x2), some (.ref x3), some (.int x4), none, none]) (st' := [.int (x4 + 2), .ref x0, .int v48, .ref x1]) (fun _ => rfl) ?_
  obtain ⟨v49, hv49, h⟩ := obind h
  refine pE_aI rfl rfl hv49 ?_
  refine pE_jump 4 (pc' := 1890) (ls' := [some (.ref x0), some (.ref x1), some (.ref x2), some (.ref x3), some (.int x4), none, none]) (st' := [.int (x4 + 3), .ref x0, .int v49, .int v48, .ref x1]) (fun _ => rfl) ?_
  obtain ⟨v50, hv50, h⟩ := obind h
  refine pE_aI rfl rfl hv50 ?_
  refine pE_jump 4 (pc' := 1896) (ls' := [some (.ref x0), some (.ref x1), some (.ref x2), some (.ref x3), some (.int x4), none, none]) (st' := [.int (x4 + 4), .ref x0, .int v50, .int v49, .int v48, .ref x1]) (fun _ => rfl) ?_
  obtain ⟨v51, hv51, h⟩ := obind h
  refine pE_aI rfl rfl hv51 ?_
  obtain ⟨⟨v53, S52⟩, hv53, h⟩ := obind h
  try dsimp only at h
  refine pE_iv (Bs := [.int v48, .int v49, .int v50, .int v51]) (st := []) 1 rfl (Or.inl ⟨rfl, rfl⟩) rfl rfl (Nat.le_of_ble_eq_true rfl) (Nat.le_of_ble_eq_true rfl) (g_BP_moves hv53) (f_BP_moves sp (d + 3) N S x1 v48 v49 v50 v51 _ hv53) ?_
  refine pE_jump 5 (pc' := 1906) (ls' := [some (.ref x0), some (.ref x1), some (.ref x2), some (.ref x3), some (.int x4), none, none]) (st' := [.int (x4 + 1), .ref x0, .ref x2, .int v53]) (fun _ => rfl) ?_
  obtain ⟨v54, hv54, h⟩ := obind h
  refine pE_aI rfl rfl hv54 ?_
  refine pE_jump 4 (pc' := 1912) (ls' := [some (.ref x0), some (.ref x1), some (.ref x2), some (.ref x3), some (.int x4), none, none]) (st' := [.int (x4 + 2), .ref x0, .int v54, .ref x2, .int v53]) (fun _ => rfl) ?_
  obtain ⟨v55, hv55, h⟩ := obind h
  refine pE_aI rfl rfl hv55 ?_
  refine pE_jump 4 (pc' := 1918) (ls' := [some (.ref x0), some (.ref x1), some (.ref x2), some (.ref x3), some (.int x4), none, none]) (st' := [.int (x4 + 3), .ref x0, .int v55, .int v54, .ref x2, .int v53]) (fun _ => rfl) ?_
  obtain ⟨v56, hv56, h⟩ := obind h
  refine pE_aI rfl rfl hv56 ?_
  refine pE_jump 4 (pc' := 1924) (ls' := [some (.ref x0), some (.ref x1), some (.ref x2), some (.ref x3), some (.int x4), none, none]) (st' := [.int (x4 + 4), .ref x0, .int v56, .int v55, .int v54, .ref x2, .int v53]) (fun _ => rfl) ?_
  obtain ⟨v57, hv57, h⟩ := obind h
  refine pE_aI rfl rfl hv57 ?_
  obtain ⟨⟨v59, S58⟩, hv59, h⟩ := obind h
  try dsimp only at h
  refine pE_iv (Bs := [.int v54, .int v55, .int v56, .int v57]) (st := [.int v53]) 1 rfl (Or.inl ⟨rfl, rfl⟩) rfl rfl (Nat.le_of_ble_eq_true rfl) (Nat.le_of_ble_eq_true rfl) (g_M_moves hv59) (f_M_moves sp (d + 4) N S52 x2 v54 v55 v56 v57 _ hv59) ?_
  refine pE_br (v53 = v59) rfl rfl (fun c60 => ?_) (fun c60 => ?_)
  · rw [if_pos c60] at h
    exact f_Law_law_1958 cab sp hcab d N rec23 x0 x1 x2 x3 x4 S58 hrec23 _ h
  · rw [if_neg c60] at h
    refine pE_weak [none, none, none, none, none, none, none] trivial ?_
    exact f_Law_law_1931 cab sp hcab d N S58 _ h
def F_Law_law_1870 (cab : pm_S → Nat → Int32 → Int32 → Int32 → Nat → Option (Int32 × pm_S)) (N : Nat)   (S : pm_S) : Option (Int32 × pm_S) :=
    some (0, S)
set_option maxHeartbeats 4000000 in
set_option maxRecDepth 20000 in
theorem f_Law_law_1870 (cab : pm_S → Nat → Int32 → Int32 → Int32 → Nat → Option (Int32 × pm_S)) (sp : pm_I → List Value → pm_S → pm_O → Prop) (hcab : ∀ S a p0 p1 p2 o r, cab S a p0 p1 p2 o = some r → sp mi_Law_cable [.ref a, .int p0, .int p1, .int p2, .ref o] S (some (.int r.1), r.2)) (d N : Nat)   (S : pm_S)  (r : (Int32 × pm_S)) (h : F_Law_law_1870 cab N   S = some r) : pmE pG (pm_rel pG sp (d + 10)) mi_Law_law 1870 [none, none, none, none, none, none, none] [] S (some (.int r.1), r.2) := by
  unfold F_Law_law_1870 at h
  refine pE_jump 1 (pc' := 1871) (ls' := [none, none, none, none, none, none, none]) (st' := [.int 0]) (fun _ => rfl) ?_
  cases h
  exact pE_ret rfl rfl rfl
def F_Law_law_1823 (cab : pm_S → Nat → Int32 → Int32 → Int32 → Nat → Option (Int32 × pm_S)) (N : Nat) (rec23 : Int32 → pm_S → Option (Int32 × pm_S)) (x0 : Nat) (x1 : Nat) (x2 : Nat) (x3 : Nat) (x4 : Int32) (S : pm_S) : Option (Int32 × pm_S) :=
    (aI [0, 6] S x0 (x4 + 1)).bind fun v61 =>
    (aI [0, 6] S x0 (x4 + 2)).bind fun v62 =>
    (aI [0, 6] S x0 (x4 + 3)).bind fun v63 =>
    (F_BP_want N S x1 v61 v62 v63).bind fun (v65, S64) =>
    (aI [0, 6] S64 x0 (x4 + 1)).bind fun v66 =>
    (aI [0, 6] S64 x0 (x4 + 2)).bind fun v67 =>
    (aI [0, 6] S64 x0 (x4 + 3)).bind fun v68 =>
    (F_M_want N S64 x2 v66 v67 v68).bind fun (v70, S69) =>
    if v65 = v70 then
    F_Law_law_1958 cab N rec23 x0 x1 x2 x3 x4 S69
    else
    F_Law_law_1870 cab N S69
set_option maxHeartbeats 4000000 in
set_option maxRecDepth 20000 in
theorem f_Law_law_1823 (cab : pm_S → Nat → Int32 → Int32 → Int32 → Nat → Option (Int32 × pm_S)) (sp : pm_I → List Value → pm_S → pm_O → Prop) (hcab : ∀ S a p0 p1 p2 o r, cab S a p0 p1 p2 o = some r → sp mi_Law_cable [.ref a, .int p0, .int p1, .int p2, .ref o] S (some (.int r.1), r.2)) (d N : Nat) (rec23 : Int32 → pm_S → Option (Int32 × pm_S)) (x0 : Nat) (x1 : Nat) (x2 : Nat) (x3 : Nat) (x4 : Int32) (S : pm_S) (hrec23 : ∀ (y1 : Int32) (U : pm_S) (r : (Int32 × pm_S)), rec23 y1 U = some r → pmE pG (pm_rel pG sp (d + 10)) mi_Law_law 23 [some (.ref x0), some (.ref x1), some (.ref x2), some (.ref x3), some (.int y1), none, none] [] U (some (.int r.1), r.2)) (r : (Int32 × pm_S)) (h : F_Law_law_1823 cab N rec23 x0 x1 x2 x3 x4 S = some r) : pmE pG (pm_rel pG sp (d + 10)) mi_Law_law 1823 [some (.ref x0), some (.ref x1), some (.ref x2), some (.ref x3), some (.int x4), none, none] [] S (some (.int r.1), r.2) := by
  unfold F_Law_law_1823 at h
  refine pE_jump 5 (pc' := 1829) (ls' := [some (.ref x0), some (.ref x1), some (.ref x2), some (.ref x3), some (.int x4), none, none]) (st' := [.int (x4 + 1), .ref x0, .ref x1]) (fun _ => rfl) ?_
  obtain ⟨v61, hv61, h⟩ := obind h
  refine pE_aI rfl rfl hv61 ?_
  refine pE_jump 4 (pc' := 1835) (ls' := [some (.ref x0), some (.ref x1), some (.ref x2), some (.ref x3), some (.int x4), none, none]) (st' := [.int (x4 + 2), .ref x0, .int v61, .ref x1]) (fun _ => rfl) ?_
  obtain ⟨v62, hv62, h⟩ := obind h
  refine pE_aI rfl rfl hv62 ?_
  refine pE_jump 4 (pc' := 1841) (ls' := [some (.ref x0), some (.ref x1), some (.ref x2), some (.ref x3), some (.int x4), none, none]) (st' := [.int (x4 + 3), .ref x0, .int v62, .int v61, .ref x1]) (fun _ => rfl) ?_
  obtain ⟨v63, hv63, h⟩ := obind h
  refine pE_aI rfl rfl hv63 ?_
  obtain ⟨⟨v65, S64⟩, hv65, h⟩ := obind h
  try dsimp only at h
  refine pE_iv (Bs := [.int v61, .int v62, .int v63]) (st := []) 1 rfl (Or.inl ⟨rfl, rfl⟩) rfl rfl (Nat.le_of_ble_eq_true rfl) (Nat.le_of_ble_eq_true rfl) (g_BP_want hv65) (f_BP_want sp (d + 5) N S x1 v61 v62 v63 _ hv65) ?_
  refine pE_jump 5 (pc' := 1851) (ls' := [some (.ref x0), some (.ref x1), some (.ref x2), some (.ref x3), some (.int x4), none, none]) (st' := [.int (x4 + 1), .ref x0, .ref x2, .int v65]) (fun _ => rfl) ?_
  obtain ⟨v66, hv66, h⟩ := obind h
  refine pE_aI rfl rfl hv66 ?_
  refine pE_jump 4 (pc' := 1857) (ls' := [some (.ref x0), some (.ref x1), some (.ref x2), some (.ref x3), some (.int x4), none, none]) (st' := [.int (x4 + 2), .ref x0, .int v66, .ref x2, .int v65]) (fun _ => rfl) ?_
  obtain ⟨v67, hv67, h⟩ := obind h
  refine pE_aI rfl rfl hv67 ?_
  refine pE_jump 4 (pc' := 1863) (ls' := [some (.ref x0), some (.ref x1), some (.ref x2), some (.ref x3), some (.int x4), none, none]) (st' := [.int (x4 + 3), .ref x0, .int v67, .int v66, .ref x2, .int v65]) (fun _ => rfl) ?_
  obtain ⟨v68, hv68, h⟩ := obind h
  refine pE_aI rfl rfl hv68 ?_
  obtain ⟨⟨v70, S69⟩, hv70, h⟩ := obind h
  try dsimp only at h
  refine pE_iv (Bs := [.int v66, .int v67, .int v68]) (st := [.int v65]) 1 rfl (Or.inl ⟨rfl, rfl⟩) rfl rfl (Nat.le_of_ble_eq_true rfl) (Nat.le_of_ble_eq_true rfl) (g_M_want hv70) (f_M_want sp (d + 6) N S64 x2 v66 v67 v68 _ hv70) ?_
  refine pE_br (v65 = v70) rfl rfl (fun c71 => ?_) (fun c71 => ?_)
  · rw [if_pos c71] at h
    exact f_Law_law_1958 cab sp hcab d N rec23 x0 x1 x2 x3 x4 S69 hrec23 _ h
  · rw [if_neg c71] at h
    refine pE_weak [none, none, none, none, none, none, none] trivial ?_
    exact f_Law_law_1870 cab sp hcab d N S69 _ h
def F_Law_law_1821 (cab : pm_S → Nat → Int32 → Int32 → Int32 → Nat → Option (Int32 × pm_S)) (N : Nat)   (S : pm_S) : Option (Int32 × pm_S) :=
    some (0, S)
set_option maxHeartbeats 4000000 in
set_option maxRecDepth 20000 in
theorem f_Law_law_1821 (cab : pm_S → Nat → Int32 → Int32 → Int32 → Nat → Option (Int32 × pm_S)) (sp : pm_I → List Value → pm_S → pm_O → Prop) (hcab : ∀ S a p0 p1 p2 o r, cab S a p0 p1 p2 o = some r → sp mi_Law_cable [.ref a, .int p0, .int p1, .int p2, .ref o] S (some (.int r.1), r.2)) (d N : Nat)   (S : pm_S)  (r : (Int32 × pm_S)) (h : F_Law_law_1821 cab N   S = some r) : pmE pG (pm_rel pG sp (d + 10)) mi_Law_law 1821 [none, none, none, none, none, none, none] [] S (some (.int r.1), r.2) := by
  unfold F_Law_law_1821 at h
  refine pE_jump 1 (pc' := 1822) (ls' := [none, none, none, none, none, none, none]) (st' := [.int 0]) (fun _ => rfl) ?_
  cases h
  exact pE_ret rfl rfl rfl
def F_Law_law_1750 (cab : pm_S → Nat → Int32 → Int32 → Int32 → Nat → Option (Int32 × pm_S)) (N : Nat) (rec23 : Int32 → pm_S → Option (Int32 × pm_S)) (x0 : Nat) (x1 : Nat) (x2 : Nat) (x3 : Nat) (x4 : Int32) (S : pm_S) : Option (Int32 × pm_S) :=
    (aI [0, 6] S x0 (x4 + 1)).bind fun v72 =>
    (aI [0, 6] S x0 (x4 + 2)).bind fun v73 =>
    (aI [0, 6] S x0 (x4 + 3)).bind fun v74 =>
    (aI [0, 6] S x0 (x4 + 4)).bind fun v75 =>
    (aI [0, 6] S x0 (x4 + 5)).bind fun v76 =>
    (F_BP_distance N S x1 v72 v73 v74 v75 v76).bind fun (v78, S77) =>
    (aI [0, 6] S77 x0 (x4 + 1)).bind fun v79 =>
    (aI [0, 6] S77 x0 (x4 + 2)).bind fun v80 =>
    (aI [0, 6] S77 x0 (x4 + 3)).bind fun v81 =>
    (aI [0, 6] S77 x0 (x4 + 4)).bind fun v82 =>
    (aI [0, 6] S77 x0 (x4 + 5)).bind fun v83 =>
    (F_M_distance N S77 x2 v79 v80 v81 v82 v83).bind fun (v85, S84) =>
    if v78 = v85 then
    F_Law_law_1958 cab N rec23 x0 x1 x2 x3 x4 S84
    else
    F_Law_law_1821 cab N S84
set_option maxHeartbeats 4000000 in
set_option maxRecDepth 20000 in
theorem f_Law_law_1750 (cab : pm_S → Nat → Int32 → Int32 → Int32 → Nat → Option (Int32 × pm_S)) (sp : pm_I → List Value → pm_S → pm_O → Prop) (hcab : ∀ S a p0 p1 p2 o r, cab S a p0 p1 p2 o = some r → sp mi_Law_cable [.ref a, .int p0, .int p1, .int p2, .ref o] S (some (.int r.1), r.2)) (d N : Nat) (rec23 : Int32 → pm_S → Option (Int32 × pm_S)) (x0 : Nat) (x1 : Nat) (x2 : Nat) (x3 : Nat) (x4 : Int32) (S : pm_S) (hrec23 : ∀ (y1 : Int32) (U : pm_S) (r : (Int32 × pm_S)), rec23 y1 U = some r → pmE pG (pm_rel pG sp (d + 10)) mi_Law_law 23 [some (.ref x0), some (.ref x1), some (.ref x2), some (.ref x3), some (.int y1), none, none] [] U (some (.int r.1), r.2)) (r : (Int32 × pm_S)) (h : F_Law_law_1750 cab N rec23 x0 x1 x2 x3 x4 S = some r) : pmE pG (pm_rel pG sp (d + 10)) mi_Law_law 1750 [some (.ref x0), some (.ref x1), some (.ref x2), some (.ref x3), some (.int x4), none, none] [] S (some (.int r.1), r.2) := by
  unfold F_Law_law_1750 at h
  refine pE_jump 5 (pc' := 1756) (ls' := [some (.ref x0), some (.ref x1), some (.ref x2), some (.ref x3), some (.int x4), none, none]) (st' := [.int (x4 + 1), .ref x0, .ref x1]) (fun _ => rfl) ?_
  obtain ⟨v72, hv72, h⟩ := obind h
  refine pE_aI rfl rfl hv72 ?_
  refine pE_jump 4 (pc' := 1762) (ls' := [some (.ref x0), some (.ref x1), some (.ref x2), some (.ref x3), some (.int x4), none, none]) (st' := [.int (x4 + 2), .ref x0, .int v72, .ref x1]) (fun _ => rfl) ?_
  obtain ⟨v73, hv73, h⟩ := obind h
  refine pE_aI rfl rfl hv73 ?_
  refine pE_jump 4 (pc' := 1768) (ls' := [some (.ref x0), some (.ref x1), some (.ref x2), some (.ref x3), some (.int x4), none, none]) (st' := [.int (x4 + 3), .ref x0, .int v73, .int v72, .ref x1]) (fun _ => rfl) ?_
  obtain ⟨v74, hv74, h⟩ := obind h
  refine pE_aI rfl rfl hv74 ?_
  refine pE_jump 4 (pc' := 1774) (ls' := [some (.ref x0), some (.ref x1), some (.ref x2), some (.ref x3), some (.int x4), none, none]) (st' := [.int (x4 + 4), .ref x0, .int v74, .int v73, .int v72, .ref x1]) (fun _ => rfl) ?_
  obtain ⟨v75, hv75, h⟩ := obind h
  refine pE_aI rfl rfl hv75 ?_
  refine pE_jump 4 (pc' := 1780) (ls' := [some (.ref x0), some (.ref x1), some (.ref x2), some (.ref x3), some (.int x4), none, none]) (st' := [.int (x4 + 5), .ref x0, .int v75, .int v74, .int v73, .int v72, .ref x1]) (fun _ => rfl) ?_
  obtain ⟨v76, hv76, h⟩ := obind h
  refine pE_aI rfl rfl hv76 ?_
  obtain ⟨⟨v78, S77⟩, hv78, h⟩ := obind h
  try dsimp only at h
  refine pE_iv (Bs := [.int v72, .int v73, .int v74, .int v75, .int v76]) (st := []) 1 rfl (Or.inl ⟨rfl, rfl⟩) rfl rfl (Nat.le_of_ble_eq_true rfl) (Nat.le_of_ble_eq_true rfl) (g_BP_distance hv78) (f_BP_distance sp (d + 2) N S x1 v72 v73 v74 v75 v76 _ hv78) ?_
  refine pE_jump 5 (pc' := 1790) (ls' := [some (.ref x0), some (.ref x1), some (.ref x2), some (.ref x3), some (.int x4), none, none]) (st' := [.int (x4 + 1), .ref x0, .ref x2, .int v78]) (fun _ => rfl) ?_
  obtain ⟨v79, hv79, h⟩ := obind h
  refine pE_aI rfl rfl hv79 ?_
  refine pE_jump 4 (pc' := 1796) (ls' := [some (.ref x0), some (.ref x1), some (.ref x2), some (.ref x3), some (.int x4), none, none]) (st' := [.int (x4 + 2), .ref x0, .int v79, .ref x2, .int v78]) (fun _ => rfl) ?_
  obtain ⟨v80, hv80, h⟩ := obind h
  refine pE_aI rfl rfl hv80 ?_
  refine pE_jump 4 (pc' := 1802) (ls' := [some (.ref x0), some (.ref x1), some (.ref x2), some (.ref x3), some (.int x4), none, none]) (st' := [.int (x4 + 3), .ref x0, .int v80, .int v79, .ref x2, .int v78]) (fun _ => rfl) ?_
  obtain ⟨v81, hv81, h⟩ := obind h
  refine pE_aI rfl rfl hv81 ?_
  refine pE_jump 4 (pc' := 1808) (ls' := [some (.ref x0), some (.ref x1), some (.ref x2), some (.ref x3), some (.int x4), none, none]) (st' := [.int (x4 + 4), .ref x0, .int v81, .int v80, .int v79, .ref x2, .int v78]) (fun _ => rfl) ?_
  obtain ⟨v82, hv82, h⟩ := obind h
  refine pE_aI rfl rfl hv82 ?_
  refine pE_jump 4 (pc' := 1814) (ls' := [some (.ref x0), some (.ref x1), some (.ref x2), some (.ref x3), some (.int x4), none, none]) (st' := [.int (x4 + 5), .ref x0, .int v82, .int v81, .int v80, .int v79, .ref x2, .int v78]) (fun _ => rfl) ?_
  obtain ⟨v83, hv83, h⟩ := obind h
  refine pE_aI rfl rfl hv83 ?_
  obtain ⟨⟨v85, S84⟩, hv85, h⟩ := obind h
  try dsimp only at h
  refine pE_iv (Bs := [.int v79, .int v80, .int v81, .int v82, .int v83]) (st := [.int v78]) 1 rfl (Or.inl ⟨rfl, rfl⟩) rfl rfl (Nat.le_of_ble_eq_true rfl) (Nat.le_of_ble_eq_true rfl) (g_M_distance hv85) (f_M_distance sp (d + 3) N S77 x2 v79 v80 v81 v82 v83 _ hv85) ?_
  refine pE_br (v78 = v85) rfl rfl (fun c86 => ?_) (fun c86 => ?_)
  · rw [if_pos c86] at h
    exact f_Law_law_1958 cab sp hcab d N rec23 x0 x1 x2 x3 x4 S84 hrec23 _ h
  · rw [if_neg c86] at h
    refine pE_weak [none, none, none, none, none, none, none] trivial ?_
    exact f_Law_law_1821 cab sp hcab d N S84 _ h
def F_Law_law_1748 (cab : pm_S → Nat → Int32 → Int32 → Int32 → Nat → Option (Int32 × pm_S)) (N : Nat)   (S : pm_S) : Option (Int32 × pm_S) :=
    some (0, S)
set_option maxHeartbeats 4000000 in
set_option maxRecDepth 20000 in
theorem f_Law_law_1748 (cab : pm_S → Nat → Int32 → Int32 → Int32 → Nat → Option (Int32 × pm_S)) (sp : pm_I → List Value → pm_S → pm_O → Prop) (hcab : ∀ S a p0 p1 p2 o r, cab S a p0 p1 p2 o = some r → sp mi_Law_cable [.ref a, .int p0, .int p1, .int p2, .ref o] S (some (.int r.1), r.2)) (d N : Nat)   (S : pm_S)  (r : (Int32 × pm_S)) (h : F_Law_law_1748 cab N   S = some r) : pmE pG (pm_rel pG sp (d + 10)) mi_Law_law 1748 [none, none, none, none, none, none, none] [] S (some (.int r.1), r.2) := by
  unfold F_Law_law_1748 at h
  refine pE_jump 1 (pc' := 1749) (ls' := [none, none, none, none, none, none, none]) (st' := [.int 0]) (fun _ => rfl) ?_
  cases h
  exact pE_ret rfl rfl rfl
def F_Law_law_1701 (cab : pm_S → Nat → Int32 → Int32 → Int32 → Nat → Option (Int32 × pm_S)) (N : Nat) (rec23 : Int32 → pm_S → Option (Int32 × pm_S)) (x0 : Nat) (x1 : Nat) (x2 : Nat) (x3 : Nat) (x4 : Int32) (S : pm_S) : Option (Int32 × pm_S) :=
    (aI [0, 6] S x0 (x4 + 1)).bind fun v87 =>
    (aI [0, 6] S x0 (x4 + 2)).bind fun v88 =>
    (aI [0, 6] S x0 (x4 + 3)).bind fun v89 =>
    (F_BP_walk N S x1 v87 v88 v89).bind fun (v91, S90) =>
    (aI [0, 6] S90 x0 (x4 + 1)).bind fun v92 =>
    (aI [0, 6] S90 x0 (x4 + 2)).bind fun v93 =>
    (aI [0, 6] S90 x0 (x4 + 3)).bind fun v94 =>
    (F_M_walk N S90 x2 v92 v93 v94).bind fun (v96, S95) =>
    if v91 = v96 then
    F_Law_law_1958 cab N rec23 x0 x1 x2 x3 x4 S95
    else
    F_Law_law_1748 cab N S95
set_option maxHeartbeats 4000000 in
set_option maxRecDepth 20000 in
theorem f_Law_law_1701 (cab : pm_S → Nat → Int32 → Int32 → Int32 → Nat → Option (Int32 × pm_S)) (sp : pm_I → List Value → pm_S → pm_O → Prop) (hcab : ∀ S a p0 p1 p2 o r, cab S a p0 p1 p2 o = some r → sp mi_Law_cable [.ref a, .int p0, .int p1, .int p2, .ref o] S (some (.int r.1), r.2)) (d N : Nat) (rec23 : Int32 → pm_S → Option (Int32 × pm_S)) (x0 : Nat) (x1 : Nat) (x2 : Nat) (x3 : Nat) (x4 : Int32) (S : pm_S) (hrec23 : ∀ (y1 : Int32) (U : pm_S) (r : (Int32 × pm_S)), rec23 y1 U = some r → pmE pG (pm_rel pG sp (d + 10)) mi_Law_law 23 [some (.ref x0), some (.ref x1), some (.ref x2), some (.ref x3), some (.int y1), none, none] [] U (some (.int r.1), r.2)) (r : (Int32 × pm_S)) (h : F_Law_law_1701 cab N rec23 x0 x1 x2 x3 x4 S = some r) : pmE pG (pm_rel pG sp (d + 10)) mi_Law_law 1701 [some (.ref x0), some (.ref x1), some (.ref x2), some (.ref x3), some (.int x4), none, none] [] S (some (.int r.1), r.2) := by
  unfold F_Law_law_1701 at h
  refine pE_jump 5 (pc' := 1707) (ls' := [some (.ref x0), some (.ref x1), some (.ref x2), some (.ref x3), some (.int x4), none, none]) (st' := [.int (x4 + 1), .ref x0, .ref x1]) (fun _ => rfl) ?_
  obtain ⟨v87, hv87, h⟩ := obind h
  refine pE_aI rfl rfl hv87 ?_
  refine pE_jump 4 (pc' := 1713) (ls' := [some (.ref x0), some (.ref x1), some (.ref x2), some (.ref x3), some (.int x4), none, none]) (st' := [.int (x4 + 2), .ref x0, .int v87, .ref x1]) (fun _ => rfl) ?_
  obtain ⟨v88, hv88, h⟩ := obind h
  refine pE_aI rfl rfl hv88 ?_
  refine pE_jump 4 (pc' := 1719) (ls' := [some (.ref x0), some (.ref x1), some (.ref x2), some (.ref x3), some (.int x4), none, none]) (st' := [.int (x4 + 3), .ref x0, .int v88, .int v87, .ref x1]) (fun _ => rfl) ?_
  obtain ⟨v89, hv89, h⟩ := obind h
  refine pE_aI rfl rfl hv89 ?_
  obtain ⟨⟨v91, S90⟩, hv91, h⟩ := obind h
  try dsimp only at h
  refine pE_iv (Bs := [.int v87, .int v88, .int v89]) (st := []) 1 rfl (Or.inl ⟨rfl, rfl⟩) rfl rfl (Nat.le_of_ble_eq_true rfl) (Nat.le_of_ble_eq_true rfl) (g_BP_walk hv91) (f_BP_walk sp (d + 6) N S x1 v87 v88 v89 _ hv91) ?_
  refine pE_jump 5 (pc' := 1729) (ls' := [some (.ref x0), some (.ref x1), some (.ref x2), some (.ref x3), some (.int x4), none, none]) (st' := [.int (x4 + 1), .ref x0, .ref x2, .int v91]) (fun _ => rfl) ?_
  obtain ⟨v92, hv92, h⟩ := obind h
  refine pE_aI rfl rfl hv92 ?_
  refine pE_jump 4 (pc' := 1735) (ls' := [some (.ref x0), some (.ref x1), some (.ref x2), some (.ref x3), some (.int x4), none, none]) (st' := [.int (x4 + 2), .ref x0, .int v92, .ref x2, .int v91]) (fun _ => rfl) ?_
  obtain ⟨v93, hv93, h⟩ := obind h
  refine pE_aI rfl rfl hv93 ?_
  refine pE_jump 4 (pc' := 1741) (ls' := [some (.ref x0), some (.ref x1), some (.ref x2), some (.ref x3), some (.int x4), none, none]) (st' := [.int (x4 + 3), .ref x0, .int v93, .int v92, .ref x2, .int v91]) (fun _ => rfl) ?_
  obtain ⟨v94, hv94, h⟩ := obind h
  refine pE_aI rfl rfl hv94 ?_
  obtain ⟨⟨v96, S95⟩, hv96, h⟩ := obind h
  try dsimp only at h
  refine pE_iv (Bs := [.int v92, .int v93, .int v94]) (st := [.int v91]) 1 rfl (Or.inl ⟨rfl, rfl⟩) rfl rfl (Nat.le_of_ble_eq_true rfl) (Nat.le_of_ble_eq_true rfl) (g_M_walk hv96) (f_M_walk sp (d + 5) N S90 x2 v92 v93 v94 _ hv96) ?_
  refine pE_br (v91 = v96) rfl rfl (fun c97 => ?_) (fun c97 => ?_)
  · rw [if_pos c97] at h
    exact f_Law_law_1958 cab sp hcab d N rec23 x0 x1 x2 x3 x4 S95 hrec23 _ h
  · rw [if_neg c97] at h
    refine pE_weak [none, none, none, none, none, none, none] trivial ?_
    exact f_Law_law_1748 cab sp hcab d N S95 _ h
def F_Law_law_1699 (cab : pm_S → Nat → Int32 → Int32 → Int32 → Nat → Option (Int32 × pm_S)) (N : Nat)   (S : pm_S) : Option (Int32 × pm_S) :=
    some (0, S)
set_option maxHeartbeats 4000000 in
set_option maxRecDepth 20000 in
theorem f_Law_law_1699 (cab : pm_S → Nat → Int32 → Int32 → Int32 → Nat → Option (Int32 × pm_S)) (sp : pm_I → List Value → pm_S → pm_O → Prop) (hcab : ∀ S a p0 p1 p2 o r, cab S a p0 p1 p2 o = some r → sp mi_Law_cable [.ref a, .int p0, .int p1, .int p2, .ref o] S (some (.int r.1), r.2)) (d N : Nat)   (S : pm_S)  (r : (Int32 × pm_S)) (h : F_Law_law_1699 cab N   S = some r) : pmE pG (pm_rel pG sp (d + 10)) mi_Law_law 1699 [none, none, none, none, none, none, none] [] S (some (.int r.1), r.2) := by
  unfold F_Law_law_1699 at h
  refine pE_jump 1 (pc' := 1700) (ls' := [none, none, none, none, none, none, none]) (st' := [.int 0]) (fun _ => rfl) ?_
  cases h
  exact pE_ret rfl rfl rfl
def F_Law_law_1681 (cab : pm_S → Nat → Int32 → Int32 → Int32 → Nat → Option (Int32 × pm_S)) (N : Nat) (rec23 : Int32 → pm_S → Option (Int32 × pm_S)) (x0 : Nat) (x1 : Nat) (x2 : Nat) (x3 : Nat) (x4 : Int32) (t0 : Int32) (t1 : Int32) (t2 : Nat) (t3 : Int32) (S : pm_S) : Option (Int32 × pm_S) :=
    (aI [0, 6] S x0 (x4 + 3)).bind fun v106 =>
    (aI [0, 6] S x0 (x4 + 4)).bind fun v107 =>
    (F_M_next N S t2 t1 t0 v106 v107).bind fun (v109, S108) =>
    if t3 = v109 then
    F_Law_law_1958 cab N rec23 x0 x1 x2 x3 x4 S108
    else
    F_Law_law_1699 cab N S108
set_option maxHeartbeats 4000000 in
set_option maxRecDepth 20000 in
theorem f_Law_law_1681 (cab : pm_S → Nat → Int32 → Int32 → Int32 → Nat → Option (Int32 × pm_S)) (sp : pm_I → List Value → pm_S → pm_O → Prop) (hcab : ∀ S a p0 p1 p2 o r, cab S a p0 p1 p2 o = some r → sp mi_Law_cable [.ref a, .int p0, .int p1, .int p2, .ref o] S (some (.int r.1), r.2)) (d N : Nat) (rec23 : Int32 → pm_S → Option (Int32 × pm_S)) (x0 : Nat) (x1 : Nat) (x2 : Nat) (x3 : Nat) (x4 : Int32) (t0 : Int32) (t1 : Int32) (t2 : Nat) (t3 : Int32) (S : pm_S) (hrec23 : ∀ (y1 : Int32) (U : pm_S) (r : (Int32 × pm_S)), rec23 y1 U = some r → pmE pG (pm_rel pG sp (d + 10)) mi_Law_law 23 [some (.ref x0), some (.ref x1), some (.ref x2), some (.ref x3), some (.int y1), none, none] [] U (some (.int r.1), r.2)) (r : (Int32 × pm_S)) (h : F_Law_law_1681 cab N rec23 x0 x1 x2 x3 x4 t0 t1 t2 t3 S = some r) : pmE pG (pm_rel pG sp (d + 10)) mi_Law_law 1681 [some (.ref x0), some (.ref x1), some (.ref x2), some (.ref x3), some (.int x4), none, none] [.int t0, .int t1, .ref t2, .int t3] S (some (.int r.1), r.2) := by
  unfold F_Law_law_1681 at h
  refine pE_jump 4 (pc' := 1686) (ls' := [some (.ref x0), some (.ref x1), some (.ref x2), some (.ref x3), some (.int x4), none, none]) (st' := [.int (x4 + 3), .ref x0, .int t0, .int t1, .ref t2, .int t3]) (fun _ => rfl) ?_
  obtain ⟨v106, hv106, h⟩ := obind h
  refine pE_aI rfl rfl hv106 ?_
  refine pE_jump 4 (pc' := 1692) (ls' := [some (.ref x0), some (.ref x1), some (.ref x2), some (.ref x3), some (.int x4), none, none]) (st' := [.int (x4 + 4), .ref x0, .int v106, .int t0, .int t1, .ref t2, .int t3]) (fun _ => rfl) ?_
  obtain ⟨v107, hv107, h⟩ := obind h
  refine pE_aI rfl rfl hv107 ?_
  obtain ⟨⟨v109, S108⟩, hv109, h⟩ := obind h
  try dsimp only at h
  refine pE_iv (Bs := [.int t1, .int t0, .int v106, .int v107]) (st := [.int t3]) 1 rfl (Or.inl ⟨rfl, rfl⟩) rfl rfl (Nat.le_of_ble_eq_true rfl) (Nat.le_of_ble_eq_true rfl) (g_M_next hv109) (f_M_next sp d N S t2 t1 t0 v106 v107 _ hv109) ?_
  refine pE_br (t3 = v109) rfl rfl (fun c110 => ?_) (fun c110 => ?_)
  · rw [if_pos c110] at h
    exact f_Law_law_1958 cab sp hcab d N rec23 x0 x1 x2 x3 x4 S108 hrec23 _ h
  · rw [if_neg c110] at h
    refine pE_weak [none, none, none, none, none, none, none] trivial ?_
    exact f_Law_law_1699 cab sp hcab d N S108 _ h
def F_Law_law_1645 (cab : pm_S → Nat → Int32 → Int32 → Int32 → Nat → Option (Int32 × pm_S)) (N : Nat) (rec23 : Int32 → pm_S → Option (Int32 × pm_S)) (x0 : Nat) (x1 : Nat) (x2 : Nat) (x3 : Nat) (x4 : Int32) (t0 : Int32) (t1 : Int32) (t2 : Nat) (S : pm_S) : Option (Int32 × pm_S) :=
    (aI [0, 6] S x0 (x4 + 3)).bind fun v100 =>
    (aI [0, 6] S x0 (x4 + 4)).bind fun v101 =>
    (F_BP_next N S t2 t1 t0 v100 v101).bind fun (v103, S102) =>
    (aI [0, 6] S102 x0 (x4 + 1)).bind fun v104 =>
    (aI [0, 6] S102 x0 (x4 + 2)).bind fun v105 =>
    if v105 = 0 then
    F_Law_law_1681 cab N rec23 x0 x1 x2 x3 x4 0 v104 x2 v103 S102
    else
    F_Law_law_1681 cab N rec23 x0 x1 x2 x3 x4 1 v104 x2 v103 S102
set_option maxHeartbeats 4000000 in
set_option maxRecDepth 20000 in
theorem f_Law_law_1645 (cab : pm_S → Nat → Int32 → Int32 → Int32 → Nat → Option (Int32 × pm_S)) (sp : pm_I → List Value → pm_S → pm_O → Prop) (hcab : ∀ S a p0 p1 p2 o r, cab S a p0 p1 p2 o = some r → sp mi_Law_cable [.ref a, .int p0, .int p1, .int p2, .ref o] S (some (.int r.1), r.2)) (d N : Nat) (rec23 : Int32 → pm_S → Option (Int32 × pm_S)) (x0 : Nat) (x1 : Nat) (x2 : Nat) (x3 : Nat) (x4 : Int32) (t0 : Int32) (t1 : Int32) (t2 : Nat) (S : pm_S) (hrec23 : ∀ (y1 : Int32) (U : pm_S) (r : (Int32 × pm_S)), rec23 y1 U = some r → pmE pG (pm_rel pG sp (d + 10)) mi_Law_law 23 [some (.ref x0), some (.ref x1), some (.ref x2), some (.ref x3), some (.int y1), none, none] [] U (some (.int r.1), r.2)) (r : (Int32 × pm_S)) (h : F_Law_law_1645 cab N rec23 x0 x1 x2 x3 x4 t0 t1 t2 S = some r) : pmE pG (pm_rel pG sp (d + 10)) mi_Law_law 1645 [some (.ref x0), some (.ref x1), some (.ref x2), some (.ref x3), some (.int x4), none, none] [.int t0, .int t1, .ref t2] S (some (.int r.1), r.2) := by
  unfold F_Law_law_1645 at h
  refine pE_jump 4 (pc' := 1650) (ls' := [some (.ref x0), some (.ref x1), some (.ref x2), some (.ref x3), some (.int x4), none, none]) (st' := [.int (x4 + 3), .ref x0, .int t0, .int t1, .ref t2]) (fun _ => rfl) ?_
  obtain ⟨v100, hv100, h⟩ := obind h
  refine pE_aI rfl rfl hv100 ?_
  refine pE_jump 4 (pc' := 1656) (ls' := [some (.ref x0), some (.ref x1), some (.ref x2), some (.ref x3), some (.int x4), none, none]) (st' := [.int (x4 + 4), .ref x0, .int v100, .int t0, .int t1, .ref t2]) (fun _ => rfl) ?_
  obtain ⟨v101, hv101, h⟩ := obind h
  refine pE_aI rfl rfl hv101 ?_
  obtain ⟨⟨v103, S102⟩, hv103, h⟩ := obind h
  try dsimp only at h
  refine pE_iv (Bs := [.int t1, .int t0, .int v100, .int v101]) (st := []) 1 rfl (Or.inl ⟨rfl, rfl⟩) rfl rfl (Nat.le_of_ble_eq_true rfl) (Nat.le_of_ble_eq_true rfl) (g_BP_next hv103) (f_BP_next sp (d + 2) N S t2 t1 t0 v100 v101 _ hv103) ?_
  refine pE_jump 5 (pc' := 1666) (ls' := [some (.ref x0), some (.ref x1), some (.ref x2), some (.ref x3), some (.int x4), none, none]) (st' := [.int (x4 + 1), .ref x0, .ref x2, .int v103]) (fun _ => rfl) ?_
  obtain ⟨v104, hv104, h⟩ := obind h
  refine pE_aI rfl rfl hv104 ?_
  refine pE_jump 4 (pc' := 1672) (ls' := [some (.ref x0), some (.ref x1), some (.ref x2), some (.ref x3), some (.int x4), none, none]) (st' := [.int (x4 + 2), .ref x0, .int v104, .ref x2, .int v103]) (fun _ => rfl) ?_
  obtain ⟨v105, hv105, h⟩ := obind h
  refine pE_aI rfl rfl hv105 ?_
  refine pE_br (v105 = 0) rfl rfl (fun c111 => ?_) (fun c111 => ?_)
  · rw [if_pos c111] at h
    refine pE_jump 1 (pc' := 1681) (ls' := [some (.ref x0), some (.ref x1), some (.ref x2), some (.ref x3), some (.int x4), none, none]) (st' := [.int 0, .int v104, .ref x2, .int v103]) (fun _ => rfl) ?_
    exact f_Law_law_1681 cab sp hcab d N rec23 x0 x1 x2 x3 x4 0 v104 x2 v103 S102 hrec23 _ h
  · rw [if_neg c111] at h
    refine pE_jump 2 (pc' := 1681) (ls' := [some (.ref x0), some (.ref x1), some (.ref x2), some (.ref x3), some (.int x4), none, none]) (st' := [.int 1, .int v104, .ref x2, .int v103]) (fun _ => rfl) ?_
    exact f_Law_law_1681 cab sp hcab d N rec23 x0 x1 x2 x3 x4 1 v104 x2 v103 S102 hrec23 _ h
def F_Law_law_1624 (cab : pm_S → Nat → Int32 → Int32 → Int32 → Nat → Option (Int32 × pm_S)) (N : Nat) (rec23 : Int32 → pm_S → Option (Int32 × pm_S)) (x0 : Nat) (x1 : Nat) (x2 : Nat) (x3 : Nat) (x4 : Int32) (S : pm_S) : Option (Int32 × pm_S) :=
    (aI [0, 6] S x0 (x4 + 1)).bind fun v98 =>
    (aI [0, 6] S x0 (x4 + 2)).bind fun v99 =>
    if v99 = 0 then
    F_Law_law_1645 cab N rec23 x0 x1 x2 x3 x4 0 v98 x1 S
    else
    F_Law_law_1645 cab N rec23 x0 x1 x2 x3 x4 1 v98 x1 S
set_option maxHeartbeats 4000000 in
set_option maxRecDepth 20000 in
theorem f_Law_law_1624 (cab : pm_S → Nat → Int32 → Int32 → Int32 → Nat → Option (Int32 × pm_S)) (sp : pm_I → List Value → pm_S → pm_O → Prop) (hcab : ∀ S a p0 p1 p2 o r, cab S a p0 p1 p2 o = some r → sp mi_Law_cable [.ref a, .int p0, .int p1, .int p2, .ref o] S (some (.int r.1), r.2)) (d N : Nat) (rec23 : Int32 → pm_S → Option (Int32 × pm_S)) (x0 : Nat) (x1 : Nat) (x2 : Nat) (x3 : Nat) (x4 : Int32) (S : pm_S) (hrec23 : ∀ (y1 : Int32) (U : pm_S) (r : (Int32 × pm_S)), rec23 y1 U = some r → pmE pG (pm_rel pG sp (d + 10)) mi_Law_law 23 [some (.ref x0), some (.ref x1), some (.ref x2), some (.ref x3), some (.int y1), none, none] [] U (some (.int r.1), r.2)) (r : (Int32 × pm_S)) (h : F_Law_law_1624 cab N rec23 x0 x1 x2 x3 x4 S = some r) : pmE pG (pm_rel pG sp (d + 10)) mi_Law_law 1624 [some (.ref x0), some (.ref x1), some (.ref x2), some (.ref x3), some (.int x4), none, none] [] S (some (.int r.1), r.2) := by
  unfold F_Law_law_1624 at h
  refine pE_jump 5 (pc' := 1630) (ls' := [some (.ref x0), some (.ref x1), some (.ref x2), some (.ref x3), some (.int x4), none, none]) (st' := [.int (x4 + 1), .ref x0, .ref x1]) (fun _ => rfl) ?_
  obtain ⟨v98, hv98, h⟩ := obind h
  refine pE_aI rfl rfl hv98 ?_
  refine pE_jump 4 (pc' := 1636) (ls' := [some (.ref x0), some (.ref x1), some (.ref x2), some (.ref x3), some (.int x4), none, none]) (st' := [.int (x4 + 2), .ref x0, .int v98, .ref x1]) (fun _ => rfl) ?_
  obtain ⟨v99, hv99, h⟩ := obind h
  refine pE_aI rfl rfl hv99 ?_
  refine pE_br (v99 = 0) rfl rfl (fun c112 => ?_) (fun c112 => ?_)
  · rw [if_pos c112] at h
    refine pE_jump 1 (pc' := 1645) (ls' := [some (.ref x0), some (.ref x1), some (.ref x2), some (.ref x3), some (.int x4), none, none]) (st' := [.int 0, .int v98, .ref x1]) (fun _ => rfl) ?_
    exact f_Law_law_1645 cab sp hcab d N rec23 x0 x1 x2 x3 x4 0 v98 x1 S hrec23 _ h
  · rw [if_neg c112] at h
    refine pE_jump 2 (pc' := 1645) (ls' := [some (.ref x0), some (.ref x1), some (.ref x2), some (.ref x3), some (.int x4), none, none]) (st' := [.int 1, .int v98, .ref x1]) (fun _ => rfl) ?_
    exact f_Law_law_1645 cab sp hcab d N rec23 x0 x1 x2 x3 x4 1 v98 x1 S hrec23 _ h
def F_Law_law_1622 (cab : pm_S → Nat → Int32 → Int32 → Int32 → Nat → Option (Int32 × pm_S)) (N : Nat)   (S : pm_S) : Option (Int32 × pm_S) :=
    some (0, S)
set_option maxHeartbeats 4000000 in
set_option maxRecDepth 20000 in
theorem f_Law_law_1622 (cab : pm_S → Nat → Int32 → Int32 → Int32 → Nat → Option (Int32 × pm_S)) (sp : pm_I → List Value → pm_S → pm_O → Prop) (hcab : ∀ S a p0 p1 p2 o r, cab S a p0 p1 p2 o = some r → sp mi_Law_cable [.ref a, .int p0, .int p1, .int p2, .ref o] S (some (.int r.1), r.2)) (d N : Nat)   (S : pm_S)  (r : (Int32 × pm_S)) (h : F_Law_law_1622 cab N   S = some r) : pmE pG (pm_rel pG sp (d + 10)) mi_Law_law 1622 [none, none, none, none, none, none, none] [] S (some (.int r.1), r.2) := by
  unfold F_Law_law_1622 at h
  refine pE_jump 1 (pc' := 1623) (ls' := [none, none, none, none, none, none, none]) (st' := [.int 0]) (fun _ => rfl) ?_
  cases h
  exact pE_ret rfl rfl rfl
def F_Law_law_1610 (cab : pm_S → Nat → Int32 → Int32 → Int32 → Nat → Option (Int32 × pm_S)) (N : Nat) (rec23 : Int32 → pm_S → Option (Int32 × pm_S)) (x0 : Nat) (x1 : Nat) (x2 : Nat) (x3 : Nat) (x4 : Int32) (t0 : Int32) (t1 : Int32) (t2 : Int32) (t3 : Nat) (t4 : Int32) (S : pm_S) : Option (Int32 × pm_S) :=
    (aI [0, 6] S x0 (x4 + 4)).bind fun v122 =>
    (F_M_parts N S t3 t2 t1 t0 v122).bind fun (v124, S123) =>
    if t4 = v124 then
    F_Law_law_1958 cab N rec23 x0 x1 x2 x3 x4 S123
    else
    F_Law_law_1622 cab N S123
set_option maxHeartbeats 4000000 in
set_option maxRecDepth 20000 in
theorem f_Law_law_1610 (cab : pm_S → Nat → Int32 → Int32 → Int32 → Nat → Option (Int32 × pm_S)) (sp : pm_I → List Value → pm_S → pm_O → Prop) (hcab : ∀ S a p0 p1 p2 o r, cab S a p0 p1 p2 o = some r → sp mi_Law_cable [.ref a, .int p0, .int p1, .int p2, .ref o] S (some (.int r.1), r.2)) (d N : Nat) (rec23 : Int32 → pm_S → Option (Int32 × pm_S)) (x0 : Nat) (x1 : Nat) (x2 : Nat) (x3 : Nat) (x4 : Int32) (t0 : Int32) (t1 : Int32) (t2 : Int32) (t3 : Nat) (t4 : Int32) (S : pm_S) (hrec23 : ∀ (y1 : Int32) (U : pm_S) (r : (Int32 × pm_S)), rec23 y1 U = some r → pmE pG (pm_rel pG sp (d + 10)) mi_Law_law 23 [some (.ref x0), some (.ref x1), some (.ref x2), some (.ref x3), some (.int y1), none, none] [] U (some (.int r.1), r.2)) (r : (Int32 × pm_S)) (h : F_Law_law_1610 cab N rec23 x0 x1 x2 x3 x4 t0 t1 t2 t3 t4 S = some r) : pmE pG (pm_rel pG sp (d + 10)) mi_Law_law 1610 [some (.ref x0), some (.ref x1), some (.ref x2), some (.ref x3), some (.int x4), none, none] [.int t0, .int t1, .int t2, .ref t3, .int t4] S (some (.int r.1), r.2) := by
  unfold F_Law_law_1610 at h
  refine pE_jump 4 (pc' := 1615) (ls' := [some (.ref x0), some (.ref x1), some (.ref x2), some (.ref x3), some (.int x4), none, none]) (st' := [.int (x4 + 4), .ref x0, .int t0, .int t1, .int t2, .ref t3, .int t4]) (fun _ => rfl) ?_
  obtain ⟨v122, hv122, h⟩ := obind h
  refine pE_aI rfl rfl hv122 ?_
  obtain ⟨⟨v124, S123⟩, hv124, h⟩ := obind h
  try dsimp only at h
  refine pE_iv (Bs := [.int t2, .int t1, .int t0, .int v122]) (st := [.int t4]) 1 rfl (Or.inl ⟨rfl, rfl⟩) rfl rfl (Nat.le_of_ble_eq_true rfl) (Nat.le_of_ble_eq_true rfl) (g_M_parts hv124) (f_M_parts sp d N S t3 t2 t1 t0 v122 _ hv124) ?_
  refine pE_br (t4 = v124) rfl rfl (fun c125 => ?_) (fun c125 => ?_)
  · rw [if_pos c125] at h
    exact f_Law_law_1958 cab sp hcab d N rec23 x0 x1 x2 x3 x4 S123 hrec23 _ h
  · rw [if_neg c125] at h
    refine pE_weak [none, none, none, none, none, none, none] trivial ?_
    exact f_Law_law_1622 cab sp hcab d N S123 _ h
def F_Law_law_1574 (cab : pm_S → Nat → Int32 → Int32 → Int32 → Nat → Option (Int32 × pm_S)) (N : Nat) (rec23 : Int32 → pm_S → Option (Int32 × pm_S)) (x0 : Nat) (x1 : Nat) (x2 : Nat) (x3 : Nat) (x4 : Int32) (t0 : Int32) (t1 : Int32) (t2 : Int32) (t3 : Nat) (S : pm_S) : Option (Int32 × pm_S) :=
    (aI [0, 6] S x0 (x4 + 4)).bind fun v116 =>
    (F_BP_parts N S t3 t2 t1 t0 v116).bind fun (v118, S117) =>
    (aI [0, 6] S117 x0 (x4 + 1)).bind fun v119 =>
    (aI [0, 6] S117 x0 (x4 + 2)).bind fun v120 =>
    (aI [0, 6] S117 x0 (x4 + 3)).bind fun v121 =>
    if v121 = 0 then
    F_Law_law_1610 cab N rec23 x0 x1 x2 x3 x4 0 v120 v119 x2 v118 S117
    else
    F_Law_law_1610 cab N rec23 x0 x1 x2 x3 x4 1 v120 v119 x2 v118 S117
set_option maxHeartbeats 4000000 in
set_option maxRecDepth 20000 in
theorem f_Law_law_1574 (cab : pm_S → Nat → Int32 → Int32 → Int32 → Nat → Option (Int32 × pm_S)) (sp : pm_I → List Value → pm_S → pm_O → Prop) (hcab : ∀ S a p0 p1 p2 o r, cab S a p0 p1 p2 o = some r → sp mi_Law_cable [.ref a, .int p0, .int p1, .int p2, .ref o] S (some (.int r.1), r.2)) (d N : Nat) (rec23 : Int32 → pm_S → Option (Int32 × pm_S)) (x0 : Nat) (x1 : Nat) (x2 : Nat) (x3 : Nat) (x4 : Int32) (t0 : Int32) (t1 : Int32) (t2 : Int32) (t3 : Nat) (S : pm_S) (hrec23 : ∀ (y1 : Int32) (U : pm_S) (r : (Int32 × pm_S)), rec23 y1 U = some r → pmE pG (pm_rel pG sp (d + 10)) mi_Law_law 23 [some (.ref x0), some (.ref x1), some (.ref x2), some (.ref x3), some (.int y1), none, none] [] U (some (.int r.1), r.2)) (r : (Int32 × pm_S)) (h : F_Law_law_1574 cab N rec23 x0 x1 x2 x3 x4 t0 t1 t2 t3 S = some r) : pmE pG (pm_rel pG sp (d + 10)) mi_Law_law 1574 [some (.ref x0), some (.ref x1), some (.ref x2), some (.ref x3), some (.int x4), none, none] [.int t0, .int t1, .int t2, .ref t3] S (some (.int r.1), r.2) := by
  unfold F_Law_law_1574 at h
  refine pE_jump 4 (pc' := 1579) (ls' := [some (.ref x0), some (.ref x1), some (.ref x2), some (.ref x3), some (.int x4), none, none]) (st' := [.int (x4 + 4), .ref x0, .int t0, .int t1, .int t2, .ref t3]) (fun _ => rfl) ?_
  obtain ⟨v116, hv116, h⟩ := obind h
  refine pE_aI rfl rfl hv116 ?_
  obtain ⟨⟨v118, S117⟩, hv118, h⟩ := obind h
  try dsimp only at h
  refine pE_iv (Bs := [.int t2, .int t1, .int t0, .int v116]) (st := []) 1 rfl (Or.inl ⟨rfl, rfl⟩) rfl rfl (Nat.le_of_ble_eq_true rfl) (Nat.le_of_ble_eq_true rfl) (g_BP_parts hv118) (f_BP_parts sp (d + 2) N S t3 t2 t1 t0 v116 _ hv118) ?_
  refine pE_jump 5 (pc' := 1589) (ls' := [some (.ref x0), some (.ref x1), some (.ref x2), some (.ref x3), some (.int x4), none, none]) (st' := [.int (x4 + 1), .ref x0, .ref x2, .int v118]) (fun _ => rfl) ?_
  obtain ⟨v119, hv119, h⟩ := obind h
  refine pE_aI rfl rfl hv119 ?_
  refine pE_jump 4 (pc' := 1595) (ls' := [some (.ref x0), some (.ref x1), some (.ref x2), some (.ref x3), some (.int x4), none, none]) (st' := [.int (x4 + 2), .ref x0, .int v119, .ref x2, .int v118]) (fun _ => rfl) ?_
  obtain ⟨v120, hv120, h⟩ := obind h
  refine pE_aI rfl rfl hv120 ?_
  refine pE_jump 4 (pc' := 1601) (ls' := [some (.ref x0), some (.ref x1), some (.ref x2), some (.ref x3), some (.int x4), none, none]) (st' := [.int (x4 + 3), .ref x0, .int v120, .int v119, .ref x2, .int v118]) (fun _ => rfl) ?_
  obtain ⟨v121, hv121, h⟩ := obind h
  refine pE_aI rfl rfl hv121 ?_
  refine pE_br (v121 = 0) rfl rfl (fun c126 => ?_) (fun c126 => ?_)
  · rw [if_pos c126] at h
    refine pE_jump 1 (pc' := 1610) (ls' := [some (.ref x0), some (.ref x1), some (.ref x2), some (.ref x3), some (.int x4), none, none]) (st' := [.int 0, .int v120, .int v119, .ref x2, .int v118]) (fun _ => rfl) ?_
    exact f_Law_law_1610 cab sp hcab d N rec23 x0 x1 x2 x3 x4 0 v120 v119 x2 v118 S117 hrec23 _ h
  · rw [if_neg c126] at h
    refine pE_jump 2 (pc' := 1610) (ls' := [some (.ref x0), some (.ref x1), some (.ref x2), some (.ref x3), some (.int x4), none, none]) (st' := [.int 1, .int v120, .int v119, .ref x2, .int v118]) (fun _ => rfl) ?_
    exact f_Law_law_1610 cab sp hcab d N rec23 x0 x1 x2 x3 x4 1 v120 v119 x2 v118 S117 hrec23 _ h
