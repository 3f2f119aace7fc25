section CTX0
variable {p : Program} {s : State} {m : MethodId} {meth : Method} {c : Code} {args : Array Value}
theorem N0 (hts : ∀ w ∈ lw_tbl, w.before args s = true) : pm_N tables_1 s := by
  intro w hw hk
  have h := hts w (List.mem_append_right _ hw)
  cases w
  case methodLinkNest a i x h' => exact va_Nw.of rfl h
  case fieldLinkNest a i b n d h' => exact va_Nw.of rfl h
  case arrayOver t =>
    cases t
    case object C => exact va_AO.of h
    case array t => exact h
    all_goals cases hk
  all_goals cases hk
/-- the law's body stands in its context -/
theorem Cx0 (hx : p.tables.exec = Jvm.exec) (hb : c.code = code) (hml : c.maxLocals = 7) (hown : s.vm.findClass "BuriedPairsLaw" = some m.cls) (hts : ∀ w ∈ lw_tbl, w.before args s = true) : ∃ (D : va_G) (dA : Nat → ClassId), pm_Cx p s m args meth c mi_Law_law (pt_cn (pi_co mi_Law_law)) pt_Ts tables_1 D pt_cl dA ∧ pm_K5 dA s := by
  obtain ⟨D, dA, h1, h2⟩ := K0 hts
  exact ⟨D, dA, ⟨hx, hb, hml, hown, k0_T hts, h1, fun h => (by cases h), N0 hts⟩, h2⟩
end CTX0
