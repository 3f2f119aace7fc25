/-! ===== the classes at the law's entry ===== -/
section KNO
variable {s : State} {args : Array Value}
theorem k0_w {i : Nat} {w : Cond} (hts : ∀ w ∈ lw_tbl, w.before args s = true) (h : tables_1[i]? = some w) : w.before args s = true := hts w (List.mem_append_right _ (List.mem_of_getElem? h))
theorem k0_T (hts : ∀ w ∈ lw_tbl, w.before args s = true) : ∀ w ∈ pt_Ts, w.before args s = true := fun w hw => hts w (List.mem_filter.mp hw).1
theorem k0_arr {ty : FieldType} (h : (Cond.arrayClass ty).before args s = true) : ∃ c k comp, s.vm.findClass ("[" ++ ty.toString) = some c ∧ s.vm.classes[c]? = some k ∧ k.kind = .array comp ty := Cond.arrayClass_spec h
theorem K0 (hts : ∀ w ∈ lw_tbl, w.before args s = true) : ∃ (D : va_G) (dA : Nat → ClassId), va_K D pt_cl (pm_tys dA) s ∧ pm_K5 dA s := by
  have hT := k0_T hts
  obtain ⟨c0, i0, u0⟩ := u_known (C := "BuriedPairs$Bench") (n := 6) hT pt_c0.2.1 (k0_w (i := 63) hts (by decide +kernel))
  obtain ⟨c1, i1, u1⟩ := u_known (C := "BuriedPairs$Layout") (n := 4) hT pt_c1.2.1 (k0_w (i := 75) hts (by decide +kernel))
  obtain ⟨c2, i2, u2⟩ := u_known (C := "BuriedPairs$Ledger") (n := 3) hT pt_c2.2.1 (k0_w (i := 110) hts (by decide +kernel))
  obtain ⟨c3, i3, u3⟩ := u_known (C := "BuriedPairs$Mover") (n := 6) hT pt_c3.2.1 (k0_w (i := 311) hts (by decide +kernel))
  obtain ⟨c4, i4, u4⟩ := u_known (C := "BuriedPairs$Plan") (n := 12) hT pt_c4.2.1 (k0_w (i := 104) hts (by decide +kernel))
  obtain ⟨c5, i5, u5⟩ := u_known (C := "BuriedPairs$Sheet") (n := 5) hT pt_c5.2.1 (k0_w (i := 131) hts (by decide +kernel))
  obtain ⟨c6, i6, u6⟩ := u_known (C := "BuriedPairs$Tape") (n := 2) hT pt_c6.2.1 (k0_w (i := 31) hts (by decide +kernel))
  obtain ⟨c7, i7, u7⟩ := u_known (C := "BuriedPairs$TextReader") (n := 3) hT pt_c7.2.1 (k0_w (i := 45) hts (by decide +kernel))
  obtain ⟨c8, i8, u8⟩ := u_known (C := "BuriedPairs$Tone") (n := 5) hT pt_c8.2.1 (k0_w (i := 265) hts (by decide +kernel))
  obtain ⟨c9, i9, u9⟩ := u_known (C := "BuriedPairs$Wires") (n := 13) hT pt_c9.2.1 (k0_w (i := 69) hts (by decide +kernel))
  obtain ⟨c10, i10, u10⟩ := u_known (C := "BuriedPairs") (n := 7) hT pt_c10.2.1 (k0_w (i := 23) hts (by decide +kernel))
  obtain ⟨c11, i11, u11⟩ := u_known (C := "BuriedPairsModel") (n := 58) hT pt_c11.2.1 (k0_w (i := 1104) hts (by decide +kernel))
  obtain ⟨a0, k0, m0, f0, g0, h0⟩ := k0_arr (ty := .int) (k0_w (i := 43) hts (by decide +kernel))
  obtain ⟨a1, k1, m1, f1, g1, h1⟩ := k0_arr (ty := .long) (k0_w (i := 309) hts (by decide +kernel))
  obtain ⟨a2, k2, m2, f2, g2, h2⟩ := k0_arr (ty := .byte) (k0_w (i := 1284) hts (by decide +kernel))
  obtain ⟨a3, k3, m3, f3, g3, h3⟩ := k0_arr (ty := .boolean) (k0_w (i := 1285) hts (by decide +kernel))
  obtain ⟨m4, a4, k4, e4, _, g4, h4, f4⟩ := Cond.arrayOver_spec (n := "BuriedPairs$Plan") (k0_w (i := 61) hts (by decide +kernel))
  obtain ⟨m5, a5, k5, e5, g5, h5, f5⟩ := Cond.arrayOver_specA (t := .int) (k0_w (i := 137) hts (by decide +kernel))
  refine ⟨(fun c => [c0, c1, c2, c3, c4, c5, c6, c7, c8, c9, c10, c11].getD c c0, fun c => [i0, i1, i2, i3, i4, i5, i6, i7, i8, i9, i10, i11].getD c i0), fun t => [a0, a1, a2, a3, a4, a5].getD t a0, ⟨fun c q hq => ?_, fun k q hq => ?_⟩, k5, g5, ?_⟩
  · match c, hq with
    | 0, hq => cases hq; exact u0
    | 1, hq => cases hq; exact u1
    | 2, hq => cases hq; exact u2
    | 3, hq => cases hq; exact u3
    | 4, hq => cases hq; exact u4
    | 5, hq => cases hq; exact u5
    | 6, hq => cases hq; exact u6
    | 7, hq => cases hq; exact u7
    | 8, hq => cases hq; exact u8
    | 9, hq => cases hq; exact u9
    | 10, hq => cases hq; exact u10
    | 11, hq => cases hq; exact u11
    | c + 12, hq => cases hq
  · match k, hq with
    | 0, hq => cases hq; exact ⟨fun n z => ⟨fun k h => (by cases h), k0, g0, m0, h0⟩, f0⟩
    | 1, hq => cases hq; exact ⟨fun n z => ⟨fun k h => (by cases h), k1, g1, m1, h1⟩, f1⟩
    | 2, hq => cases hq; exact ⟨fun n z => ⟨fun k h => (by cases h), k2, g2, m2, h2⟩, f2⟩
    | 3, hq => cases hq; exact ⟨fun n z => ⟨fun k h => (by cases h), k3, g3, m3, h3⟩, f3⟩
    | 4, hq => cases hq; exact ⟨fun n z => ⟨fun k h => (by cases h), k4, g4, m4, h4⟩, k4, m4, g4, h4, e4, f4⟩
    | 5, hq => cases hq; exact ⟨fun n z => ⟨fun k h => (by cases h), k5, g5, m5, h5⟩, f5⟩
    | k + 6, hq => cases hq
  · have e : m5 = a0 := by
      have e5' : s.vm.findClass ("[" ++ FieldType.int.toString) = some m5 := e5
      rw [f0] at e5'
      exact (Option.some.inj e5').symm
    rw [h5, e]
    rfl
end KNO
