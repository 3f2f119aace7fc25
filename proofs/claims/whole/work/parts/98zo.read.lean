/-! ===== the class reads a whole TEXT ===== -/
noncomputable def sttA (b : Nat → Nat) (A : AP) (i : Nat) : Nat ⊕ (AP × Nat) := if b (sk b (i + 1)) = 100 then cabA b A (sk b (i + 1) + 1) else if b (sk b (i + 1)) = 107 then joiA b A (sk b (i + 1) + 1) else if b (sk b (i + 1)) = 105 then houA b A (sk b (i + 1) + 1) else .inl (sk b (i + 1))
noncomputable def rdF (b : Nat → Nat) : Nat → AP → Nat → Nat ⊕ AP
  | 0 => fun _ i => .inl i
  | n + 1 => fun A i => if b (sk b i) = 60 then (match sttA b A (sk b i) with
    | .inl f => .inl f
    | .inr (A', j) => rdF b n A' j) else if b (sk b i) = 0 then .inr A else .inl (sk b i)
noncomputable def rdT (b : Nat → Nat) : Nat ⊕ AP := if b (sk b 0) = 99 then (match nmR b (sk b 0 + 1) (fun v => 2 ≤ v ∧ v ≤ 8) with
  | .inl f => .inl f
  | .inr (v, j) => rdF b 301 (aB v) j) else .inl (sk b 0)
section RDC
variable {h0 : Nat → pm_C} {B : Nat} {D : Nat → pd} {hi z : Nat} {s : mst} {N P L i n : Nat} {A : AP} {b : Nat → Nat}
theorem F_byte (hf : FX D hi) (hx : CTX s b L) (hi2 : i ≤ 400) : F_Tape_byteAt N (mkM h0 B D hi z s) (B + 1) (nI i) = some (cd (b i), (mkM h0 B D hi z s)) := by
  rw [sg_Tape_byteAt hf, g_byte hx hi2]
  rfl
theorem F_skip (hN : 1000 ≤ N) (hf : FX D hi) (hx : CTX s b L) (hi2 : i ≤ L) (ha : s.1 3 1 = nI i) : F_Reader_skipBlanks N (mkM h0 B D hi z s) (B + 3) = some (mkM h0 B D hi z (atS s (sk b i))) := by
  rw [sg_Reader_skipBlanks hf, g_skip hN hx hi2 ha]
  rfl
theorem cd_c (hx : TX b L) {v : Nat} (hv : v < 256) : cd (b i) = nI v ↔ b i = v + 1 := by
  have := hx.2.1 i
  exact cd_nI (by omega) (by omega)
theorem FR_r (h : ∃ c, c ≤ 7 ∧ s.1 (P + 1) 2 = nI c) (h' : s.1 (P + 1) 1 = nI 7) : FR P s s := ⟨fun _ _ _ => rfl, rfl, h, h'⟩
theorem FR_t {s' s'' : mst} (h : FR P s s') (h' : FR P s' s'') : FR P s s'' := ⟨fun k k1 k2 => (h'.1 k k1 k2).trans (h.1 k k1 k2), h'.2.1.trans h.2.1, h'.2.2⟩
theorem FR_a {j : Nat} (hP : 4 ≤ P) (h : ∃ c, c ≤ 7 ∧ s.1 (P + 1) 2 = nI c) (h' : s.1 (P + 1) 1 = nI 7) : FR P s (atS s j) := ⟨fun k k1 _ => atS_k k1, atS_j (by decide), by rw [atS_k (by omega)]; exact h, by rw [atS_k (by omega)]; exact h'⟩
theorem CTX_fr {s' : mst} (hx : CTX s b L) (h : FR P s s') (hP : P = 58 ∨ 130 ≤ P) : CTX s' b L := by
  unfold CTX at hx ⊢
  rw [h.1 1 (by omega) (by omega), h.1 2 (by omega) (by omega)]
  exact hx
/-- a statement: its ; stands at i -/
theorem c_stm (hN : 1000 ≤ N) (hf : FX D hi) (hp : PL D hi P) (hP : P = 58 ∨ 130 ≤ P) (hA : DA A) (hq : q_nq A < 50) (hx : CTX s b L) (hi2 : i < L) (hs : OKS s P A i) (h60 : b i = 60) : ∃ s', F_Reader_readStatement N (mkM h0 B D hi z s) (B + 3) (B + P) = some (mkM h0 B D hi z (s')) ∧ FR P s s' ∧ ((∃ f, sttA b A i = .inl f ∧ BAD b L f s') ∨ ∃ A' j, sttA b A i = .inr (A', j) ∧ OKS s' P A' j ∧ i + 8 ≤ j ∧ j ≤ L) := by
  obtain ⟨hw, ha, hc, hl⟩ := hs
  have hT := hx.1
  have hL := hT.1
  have hWc := hA.1.1
  unfold WFc at hWc
  have hle := sk_le (i := i + 1) hT (by omega)
  have hge := sk_ge (i := i + 1) hT
  have hd : (∃ c, c ≤ 7 ∧ s.1 (P + 1) 2 = nI c) := ⟨q_nc A, by omega, hc.2.1⟩
  have hx1 := atS_c hx (i := i + 1)
  have hxm := atS_c hx (i := sk b (i + 1))
  have e59 : (59 : Int32) = nI 59 := rfl
  have e99 : (99 : Int32) = nI 99 := rfl
  have e106 : (106 : Int32) = nI 106 := rfl
  have e104 : (104 : Int32) = nI 104 := rfl
  -- up to the letter
  have pre : F_Reader_readStatement N (mkM h0 B D hi z s) (B + 3) (B + P) = if cd (b (sk b (i + 1))) = 99 then F_Reader_readStatement_78 N (B + 3) (B + P) (cd (b (sk b (i + 1)))) (mkM h0 B D hi z (atS s (sk b (i + 1)))) else (if cd (b (sk b (i + 1))) = 106 then F_Reader_readStatement_78 N (B + 3) (B + P) (cd (b (sk b (i + 1)))) (mkM h0 B D hi z (atS s (sk b (i + 1)))) else (if cd (b (sk b (i + 1))) = 104 then F_Reader_readStatement_78 N (B + 3) (B + P) (cd (b (sk b (i + 1)))) (mkM h0 B D hi z (atS s (sk b (i + 1)))) else some (mkM h0 B D hi z (wr1 (atS s (sk b (i + 1))) 3 2 (nI (sk b (i + 1))))))) := by
    unfold F_Reader_readStatement
    rw [rcm_3 hf, if_pos rfl, rdm_3_0 hf, Option.bind_some]
    dsimp only
    rw [rdm_3_1 hf, Option.bind_some, ha, F_byte hf hx (by omega), Option.bind_some]
    dsimp only
    rw [if_pos (show cd (b i) = 59 from (cd_c hT (v := 59) (by decide)).mpr h60), rdm_3_1 hf, Option.bind_some, ha, nI_1, wrm_3_1 hf, Option.bind_some]
    have e1 : wrI s 3 1 (nI (i + 1)) = atS s (i + 1) := rfl
    rw [e1, F_skip hN hf hx1 (by omega) atS_2, Option.bind_some, atS_a, rdm_3_0 hf, Option.bind_some]
    dsimp only
    rw [rdm_3_1 hf, Option.bind_some, atS_2, F_byte hf hxm (by omega), Option.bind_some]
    dsimp only
    rw [rdm_3_1 hf, Option.bind_some, atS_2, F_fail hf (g_fail_y (by rw [atS_j (by decide)]; exact hw)), Option.bind_some]
  have ok : OKS (atS s (sk b (i + 1) + 1)) P A (sk b (i + 1) + 1) := by
    refine ⟨by rw [atS_j (by decide)]; exact hw, atS_2, atS_CPc hc (by omega), ?_⟩
    unfold CL at hl ⊢
    rw [atS_k (by omega), atS_k (by omega), atS_k (by omega), atS_k (by omega)]
    exact hl
  have hbm : ∀ v, b (sk b (i + 1)) = v + 1 → sk b (i + 1) + 1 ≤ L := by
    intro v hv
    by_cases c : sk b (i + 1) < L
    · omega
    · have := (hT.2.2 (sk b (i + 1))).mpr (by omega)
      omega
  have fin : ∀ (r : Nat ⊕ (AP × Nat)) (s' : mst), sttA b A i = r → STC b L P (atS s (sk b (i + 1) + 1)) s' (sk b (i + 1) + 1) r → FR P s s' ∧ ((∃ f, sttA b A i = .inl f ∧ BAD b L f s') ∨ ∃ A' j, sttA b A i = .inr (A', j) ∧ OKS s' P A' j ∧ i + 8 ≤ j ∧ j ≤ L) := by
    intro r s' er hS
    refine ⟨FR_t (FR_a (by omega) hd hc.2.2.1) hS.1, ?_⟩
    rw [er]
    rcases hS.2 with ⟨f, u1, u2⟩ | ⟨A', j, u1, u2, u3, u4⟩
    · exact Or.inl ⟨f, u1, u2⟩
    · exact Or.inr ⟨A', j, u1, u2, by omega, u4⟩
  have h78 : ∀ v : Int32, F_Reader_readStatement_78 N (B + 3) (B + P) v (mkM h0 B D hi z (atS s (sk b (i + 1)))) = if v = 99 then F_Reader_readCable N (mkM h0 B D hi z (atS s (sk b (i + 1) + 1))) (B + 3) (B + P) else (if v = 106 then F_Reader_readJoint N (mkM h0 B D hi z (atS s (sk b (i + 1) + 1))) (B + 3) (B + P) else F_Reader_readHouse N (mkM h0 B D hi z (atS s (sk b (i + 1) + 1))) (B + 3) (B + P)) := by
    intro v
    have bid : ∀ X : Option pm_S, (X.bind fun S => F_Reader_readStatement_121 N S) = X := by
      intro X
      cases X <;> rfl
    unfold F_Reader_readStatement_78
    rw [rdm_3_1 hf, Option.bind_some, atS_2, nI_1, wrm_3_1 hf, Option.bind_some]
    have e1 : wrI (atS s (sk b (i + 1))) 3 1 (nI (sk b (i + 1) + 1)) = atS s (sk b (i + 1) + 1) := atS_a
    rw [e1, bid, bid, bid]
  have hxp := atS_c hx (i := sk b (i + 1) + 1)
  by_cases c1 : b (sk b (i + 1)) = 100
  · have e1 : cd (b (sk b (i + 1))) = 99 := (cd_c hT (v := 99) (by decide)).mpr c1
    obtain ⟨s', t1, t2⟩ := c_readCable (N := N) (h0 := h0) (B := B) (z := z) hN hf hp hP hA hxp (hbm 99 c1) ok
    obtain ⟨f1, f2⟩ := fin (cabA b A (sk b (i + 1) + 1)) s' (by unfold sttA; rw [if_pos c1]) t2
    exact ⟨s', by rw [pre, if_pos e1, h78, if_pos e1, t1], f1, f2⟩
  · have n1 : ¬ cd (b (sk b (i + 1))) = 99 := fun y => c1 ((cd_c hT (v := 99) (by decide)).mp y)
    by_cases c2 : b (sk b (i + 1)) = 107
    · have e1 : cd (b (sk b (i + 1))) = 106 := (cd_c hT (v := 106) (by decide)).mpr c2
      obtain ⟨s', t1, t2⟩ := c_readJoint (N := N) (h0 := h0) (B := B) (z := z) hN hf hp hP hA hq hxp (hbm 106 c2) ok
      obtain ⟨f1, f2⟩ := fin (joiA b A (sk b (i + 1) + 1)) s' (by unfold sttA; rw [if_neg c1, if_pos c2]) t2
      exact ⟨s', by rw [pre, if_neg n1, if_pos e1, h78, if_neg n1, if_pos e1, t1], f1, f2⟩
    · have n2 : ¬ cd (b (sk b (i + 1))) = 106 := fun y => c2 ((cd_c hT (v := 106) (by decide)).mp y)
      by_cases c3 : b (sk b (i + 1)) = 105
      · have e1 : cd (b (sk b (i + 1))) = 104 := (cd_c hT (v := 104) (by decide)).mpr c3
        obtain ⟨s', t1, t2⟩ := c_readHouse (N := N) (h0 := h0) (B := B) (z := z) hN hf hp hP hA hq hxp (hbm 104 c3) ok
        obtain ⟨f1, f2⟩ := fin (houA b A (sk b (i + 1) + 1)) s' (by unfold sttA; rw [if_neg c1, if_neg c2, if_pos c3]) t2
        exact ⟨s', by rw [pre, if_neg n1, if_neg n2, if_pos e1, h78, if_neg n1, if_neg n2, t1], f1, f2⟩
      · have n3 : ¬ cd (b (sk b (i + 1))) = 104 := fun y => c3 ((cd_c hT (v := 104) (by decide)).mp y)
        refine ⟨wr1 (atS s (sk b (i + 1))) 3 2 (nI (sk b (i + 1))), by rw [pre, if_neg n1, if_neg n2, if_neg n3], ?_, Or.inl ⟨sk b (i + 1), by unfold sttA; rw [if_neg c1, if_neg c2, if_neg c3], hle, Or.inl (by rw [wr1_at, if_pos rfl])⟩⟩
        refine ⟨fun k k1 _ => by rw [wr1_ne k1, atS_k k1], by rw [wr1_at, if_neg (by decide), atS_j (by decide)], by rw [wr1_ne (by omega), atS_k (by omega)]; exact hd, by rw [wr1_ne (by omega), atS_k (by omega)]; exact hc.2.2.1⟩
/-- once something is wrong, it is told -/
theorem c_loopW {f g t : Nat} (hf : FX D hi) (hw : s.1 3 2 = nI f) (hfL : f < 2 ^ 31) : F_Reader_readInto_27 N (B + 3) (B + P) (g + 1) (nI t) (mkM h0 B D hi z s) = some (nI f, (mkM h0 B D hi z s)) := by
  have e74 : F_Reader_readInto_60 N (B + 3) (B + P) (mkM h0 B D hi z s) = some (nI f, (mkM h0 B D hi z s)) := by
    unfold F_Reader_readInto_60 F_Reader_readInto_72
    rw [rdm_3_2 hf, Option.bind_some, hw, if_neg (nI_n1 hfL), Option.bind_some]
  show B_Reader_readInto_27 N (F_Reader_readInto_27 N (B + 3) (B + P) g) (B + 3) (B + P) (nI t) (mkM h0 B D hi z s) = _
  unfold B_Reader_readInto_27
  rw [e74, rdm_3_2 hf, Option.bind_some, hw, if_neg (nI_n1 hfL), ite_self]
theorem c_more (hN : 1000 ≤ N) (hf : FX D hi) (hx : CTX s b L) (hi2 : i ≤ L) (ha : s.1 3 1 = nI i) : F_Reader_comesMore N (mkM h0 B D hi z s) (B + 3) = some (if L ≤ sk b i then 0 else 1, (mkM h0 B D hi z (atS s (sk b i)))) := by
  have hle := sk_le hx.1 hi2
  have hL := hx.1.1
  have e1 : (atS s (sk b i)).1 1 1 = nI L := by rw [atS_k (by decide)]; exact hx.2.1
  rw [sg_Reader_comesMore hf]
  unfold G_Reader_comesMore G_Reader_comesMore_23 G_Tape_size
  rw [g_skip hN hx hi2 ha, Option.bind_some, Option.bind_some]
  dsimp only
  rw [e1, atS_2, if_pos (Or.inl rfl), if_pos (Or.inr rfl)]
  by_cases c : L ≤ sk b i
  · rw [if_pos (nI_le c (by omega)), if_pos c]
    rfl
  · rw [if_neg (nI_ge (by omega) (by omega)), if_neg c]
    rfl
/-- a statement that begins with no ; -/
theorem c_noSemi (hf : FX D hi) (hx : CTX s b L) (hi2 : i ≤ L) (ha : s.1 3 1 = nI i) (hw : s.1 3 2 = -1) (h60 : b i ≠ 60) : F_Reader_readStatement N (mkM h0 B D hi z s) (B + 3) (B + P) = some (mkM h0 B D hi z (wr1 s 3 2 (nI i))) := by
  have hL := hx.1.1
  unfold F_Reader_readStatement
  rw [rcm_3 hf, if_pos rfl, rdm_3_0 hf, Option.bind_some]
  dsimp only
  rw [rdm_3_1 hf, Option.bind_some, ha, F_byte hf hx (by omega), Option.bind_some]
  dsimp only
  rw [if_neg (show ¬ cd (b i) = 59 from fun y => h60 ((cd_c hx.1 (v := 59) (by decide)).mp y)), rdm_3_1 hf, Option.bind_some, ha, F_fail hf (g_fail_y hw), Option.bind_some]
theorem c_loopP {f g t : Nat} (hN : 1000 ≤ N) (hf : FX D hi) (hx : CTX s b L) (hw : s.1 3 2 = -1) (ha : s.1 3 1 = nI f) (hfL : f ≤ L) (hd : dg (b f)) (ht : t < 300) : ∃ s', F_Reader_readInto_27 N (B + 3) (B + P) (g + 1 + 1) (nI t) (mkM h0 B D hi z s) = some (nI f, (mkM h0 B D hi z (s'))) ∧ (∀ k, k ≠ 3 → s'.1 k = s.1 k) ∧ s'.1 3 0 = s.1 3 0 := by
  have hT := hx.1
  have hL := hT.1
  have hn33 : b f ≠ 33 := fun y => by rw [y] at hd; unfold dg at hd; omega
  have hsk : sk b f = f := (SK_u (sk_SK hT) ⟨Nat.le_refl _, fun m m1 m2 => by omega, hn33⟩)
  have hlt : f < L := by
    by_cases c : f < L
    · exact c
    · have := (hT.2.2 f).mpr (by omega)
      unfold dg at hd
      omega
  have hm := c_more (N := N) (h0 := h0) (B := B) (z := z) hN hf hx hfL ha
  rw [hsk, if_neg (by omega), atS_s ha] at hm
  refine ⟨wr1 s 3 2 (nI f), ?_, fun k hk => wr1_ne hk, by rw [wr1_at, if_neg (by decide)]⟩
  show B_Reader_readInto_27 N (F_Reader_readInto_27 N (B + 3) (B + P) (g + 1)) (B + 3) (B + P) (nI t) (mkM h0 B D hi z s) = _
  unfold B_Reader_readInto_27
  rw [L_300, if_neg (nI_ge ht (by decide)), rdm_3_2 hf, Option.bind_some, if_pos hw, hm, Option.bind_some]
  dsimp only
  rw [if_neg i10]
  rw [c_noSemi hf hx hfL ha hw (fun y => by rw [y] at hd; unfold dg at hd; omega), Option.bind_some, nI_1]
  exact c_loopW hf (by rw [wr1_at, if_pos rfl]) (by omega)
/-- what is left when a TEXT was read -/
def SET (s : mst) (P : Nat) (A : AP) : Prop := CPc s P A ∧ CPl s P A
theorem c_settle (hN : 1000 ≤ N) (hp : PL D hi P) (hP : P = 58 ∨ 130 ≤ P) (hA : DA A) (hc : CPc s P A) (hl : CL s (P + 5) (q_ly A (q_nq A))) : ∃ s', F_Plan_settleText N (mkM h0 B D hi z s) (B + P) = some (mkM h0 B D hi z (s')) ∧ Fm (fun q => q = P + 4 ∨ (P + 10 < q ∧ q ≤ P + 14)) s s' ∧ SET s' P A := by
  have hWc := hA.1.1
  unfold WFc at hWc
  have hX := hA.1.2.1
  obtain ⟨s1, e1, m1, l1⟩ := c_copy (N := N) (h0 := h0) (B := B) (z := z) (pl_T10 hp) (pl_T5 hp) (by omega) hl
  have hc1 : CPc s1 P A := CPc_e hc (fun k k1 k2 => m1.1 k (by omega))
  unfold F_Plan_settleText
  rw [pl_rc hp, if_pos rfl, pl_5 hp, Option.bind_some]
  dsimp only
  rw [pl_4 hp, Option.bind_some]
  dsimp only
  rw [e1, Option.bind_some]
  refine Exists.elim (lpE (F := fun f c (q : Nat × mst) => F_Plan_settleText_15 N (B + P) f (nI q.1) (nI c) (mkM h0 B D hi z (q.2))) (n := q_nc A) (I := fun c q => q.1 = q_f0 A c ∧ Fm (fun k => k = P + 4) s1 q.2 ∧ ∀ x, x < c → q.2.1 (P + 4) x = nI (q_f0 A x)) ?_ N 0 (0, s1) (by omega) (by omega) ⟨rfl, Fm_r, fun x hx => by omega⟩) ?_
  · intro f c ⟨q1, q2⟩ hcn ⟨i1, i2, i3⟩
    dsimp only at i1 i2 i3
    subst i1
    have hcq : CPc q2 P A := CPc_e hc1 (fun k k1 k2 => i2.1 k (by omega))
    have hxc := hX c hcn
    have hc3 : CPc (wr1 q2 (P + 4) c (nI (q_f0 A c))) P A := CPc_e hcq (fun k k1 k2 => wr1_ne (by omega))
    refine ⟨(q_f0 A (c + 1), wr1 q2 (P + 4) c (nI (q_f0 A c))), ⟨rfl, Fm_t i2 (Fm_w rfl), fun x hx => ?_⟩, ?_⟩
    · dsimp only
      rw [wr1_at]
      by_cases e : x = c
      · rw [if_pos e, e]
      · rw [if_neg e]
        exact i3 x (by omega)
    · dsimp only
      show B_Plan_settleText_15 N (F_Plan_settleText_15 N (B + P) f) (B + P) (nI (q_f0 A c)) (nI c) (mkM h0 B D hi z (q2)) = _
      unfold B_Plan_settleText_15
      rw [pl_1 hp, Option.bind_some]
      dsimp only
      rw [c_size (pl_L1 hp), Option.bind_some]
      dsimp only
      rw [hcq.2.1, if_neg (nI_ge hcn (by omega)), pl_3 hp, Option.bind_some]
      dsimp only
      rw [ar_s (pl_A4 hp), Option.bind_some, ws_nI (by omega) (by decide), pl_1 hp, Option.bind_some]
      dsimp only
      rw [L_0, c_at (pl_L1 hp) hc3.2.1 (by omega) hcn (by omega), Option.bind_some]
      dsimp only
      rw [(hc3.2.2.2.1 c hcn).1]
      unfold F_Plan_settleText_57
      by_cases c0 : q_fr A c = 0
      · rw [c0, if_pos rfl, d_pairsOf hp hc3 (by omega) hcn, Option.bind_some]
        dsimp only
        rw [nI_add, nI_1]
        simp only [q_f0]
        rw [if_pos c0]
      · rw [if_neg (fun y => c0 ((nI_eq (by omega) (by decide)).mp y)), nI_add, nI_1]
        simp only [q_f0]
        rw [if_neg c0]
  · intro f ⟨⟨q1, q2⟩, ⟨i1, i2, i3⟩, e⟩
    dsimp only at i1 i2 i3 e
    have hcq : CPc q2 P A := CPc_e hc1 (fun k k1 k2 => i2.1 k (by omega))
    refine ⟨q2, Eq.trans e ?_, Fm_t (Fm_m m1 (fun q hq => by omega)) (Fm_m i2 (fun q hq => Or.inl hq)), hcq, fun x hx => i3 x hx, ?_, ?_⟩
    · show B_Plan_settleText_15 N (F_Plan_settleText_15 N (B + P) f) (B + P) (nI q1) (nI (q_nc A)) (mkM h0 B D hi z (q2)) = _
      unfold B_Plan_settleText_15 F_Plan_settleText_65
      rw [pl_1 hp, Option.bind_some]
      dsimp only
      rw [c_size (pl_L1 hp), Option.bind_some]
      dsimp only
      rw [hcq.2.1, if_pos (nI_le (Nat.le_refl _) (by omega))]
    · unfold CL at hl ⊢
      rw [i2.1 _ (by omega), i2.1 _ (by omega), i2.1 _ (by omega), i2.1 _ (by omega), m1.1 _ (by omega), m1.1 _ (by omega), m1.1 _ (by omega), m1.1 _ (by omega)]
      exact hl
    · rw [lw0, hA.2.1, Nat.add_zero]
      unfold CL at l1 ⊢
      rw [i2.1 _ (by omega), i2.1 _ (by omega), i2.1 _ (by omega), i2.1 _ (by omega)]
      exact l1
end RDC
