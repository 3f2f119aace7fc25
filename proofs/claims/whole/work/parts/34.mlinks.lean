set_option maxRecDepth 100000 in
theorem lk_0_3 : pm_OM pt_cl pt_Ts tables_1 pt_cn (pt_cn 0) 3 mi_Arr_fill 3 := Or.inr (Or.inr (Or.inr (Or.inl ⟨rfl, pt_w_ok (i := 67) (by decide +kernel), pt_w_ok (i := 28) (by decide +kernel), pt_w_ok (i := 29) (by decide +kernel)⟩)))
set_option maxRecDepth 100000 in
theorem lk_0_11 : pm_OM pt_cl pt_Ts tables_1 pt_cn (pt_cn 0) 11 mi_Wires_init 2 := Or.inr (Or.inr (Or.inl ⟨rfl, ok_mi_Wires_init, Or.inl (pt_w_ok (i := 70) (by decide +kernel)), wa_mi_Wires_init, rfl, rfl⟩))
set_option maxRecDepth 100000 in
theorem lk_0_20 : pm_OM pt_cl pt_Ts tables_1 pt_cn (pt_cn 0) 20 mi_Tone_init 2 := Or.inr (Or.inr (Or.inl ⟨rfl, ok_mi_Tone_init, Or.inl (pt_w_ok (i := 266) (by decide +kernel)), wa_mi_Tone_init, rfl, rfl⟩))
set_option maxRecDepth 100000 in
theorem lk_0_40 : pm_OM pt_cl pt_Ts tables_1 pt_cn (pt_cn 0) 40 mi_Tone_send 1 := Or.inr (Or.inl ⟨rfl, ok_mi_Tone_send, Or.inl (pt_w_ok (i := 729) (by decide +kernel)), wa_mi_Tone_send, wb_mi_Tone_send, _, _, rfl⟩)
set_option maxRecDepth 100000 in
theorem lk_0_48 : pm_OM pt_cl pt_Ts tables_1 pt_cn (pt_cn 0) 48 mi_Tone_feeders 1 := Or.inr (Or.inl ⟨rfl, ok_mi_Tone_feeders, Or.inl (pt_w_ok (i := 730) (by decide +kernel)), wa_mi_Tone_feeders, wb_mi_Tone_feeders, _, _, rfl⟩)
set_option maxRecDepth 100000 in
theorem lk_0_52 : pm_OM pt_cl pt_Ts tables_1 pt_cn (pt_cn 0) 52 mi_Wires_homeOf 1 := Or.inr (Or.inl ⟨rfl, ok_mi_Wires_homeOf, Or.inl (pt_w_ok (i := 744) (by decide +kernel)), wa_mi_Wires_homeOf, wb_mi_Wires_homeOf, _, _, rfl⟩)
set_option maxRecDepth 100000 in
theorem lk_0_56 : pm_OM pt_cl pt_Ts tables_1 pt_cn (pt_cn 0) 56 mi_Bench_feedersOf 1 := Or.inr (Or.inl ⟨rfl, ok_mi_Bench_feedersOf, Or.inl (pt_w_ok (i := 745) (by decide +kernel)), wa_mi_Bench_feedersOf, wb_mi_Bench_feedersOf, _, _, rfl⟩)
set_option maxRecDepth 100000 in
theorem lk_0_60 : pm_OM pt_cl pt_Ts tables_1 pt_cn (pt_cn 0) 60 mi_Lng_bitCount 0 := Or.inl ⟨rfl, ok_mi_Lng_bitCount, Or.inl (pt_w_ok (i := 746) (by decide +kernel)), wa_mi_Lng_bitCount⟩
set_option maxRecDepth 100000 in
theorem lk_0_66 : pm_OM pt_cl pt_Ts tables_1 pt_cn (pt_cn 0) 66 mi_Bench_isShared 1 := Or.inr (Or.inl ⟨rfl, ok_mi_Bench_isShared, Or.inl (pt_w_ok (i := 752) (by decide +kernel)), wa_mi_Bench_isShared, wb_mi_Bench_isShared, _, _, rfl⟩)
set_option maxRecDepth 100000 in
theorem lk_0_70 : pm_OM pt_cl pt_Ts tables_1 pt_cn (pt_cn 0) 70 mi_Tone_comesToHome 1 := Or.inr (Or.inl ⟨rfl, ok_mi_Tone_comesToHome, Or.inl (pt_w_ok (i := 764) (by decide +kernel)), wa_mi_Tone_comesToHome, wb_mi_Tone_comesToHome, _, _, rfl⟩)
set_option maxRecDepth 100000 in
theorem lk_0_73 : pm_OM pt_cl pt_Ts tables_1 pt_cn (pt_cn 0) 73 mi_Plan_pairsOf 1 := Or.inr (Or.inl ⟨rfl, ok_mi_Plan_pairsOf, Or.inl (pt_w_ok (i := 777) (by decide +kernel)), wa_mi_Plan_pairsOf, wb_mi_Plan_pairsOf, _, _, rfl⟩)
set_option maxRecDepth 100000 in
theorem lk_0_78 : pm_OM pt_cl pt_Ts tables_1 pt_cn (pt_cn 0) 78 mi_BP_siteOf 0 := Or.inl ⟨rfl, ok_mi_BP_siteOf, Or.inr ⟨"BuriedPairs", pt_n_ok (i := 778) (by decide +kernel)⟩, wa_mi_BP_siteOf⟩
set_option maxRecDepth 100000 in
theorem lk_0_82 : pm_OM pt_cl pt_Ts tables_1 pt_cn (pt_cn 0) 82 mi_Wires_jointPairs 1 := Or.inr (Or.inl ⟨rfl, ok_mi_Wires_jointPairs, Or.inl (pt_w_ok (i := 779) (by decide +kernel)), wa_mi_Wires_jointPairs, wb_mi_Wires_jointPairs, _, _, rfl⟩)
set_option maxRecDepth 100000 in
theorem lk_0_89 : pm_OM pt_cl pt_Ts tables_1 pt_cn (pt_cn 0) 89 mi_Ledger_at 1 := Or.inr (Or.inl ⟨rfl, ok_mi_Ledger_at, Or.inl (pt_w_ok (i := 806) (by decide +kernel)), wa_mi_Ledger_at, wb_mi_Ledger_at, _, _, rfl⟩)
set_option maxRecDepth 100000 in
theorem lk_0_94 : pm_OM pt_cl pt_Ts tables_1 pt_cn (pt_cn 0) 94 mi_Wires_measure 1 := Or.inr (Or.inl ⟨rfl, ok_mi_Wires_measure, Or.inl (pt_w_ok (i := 807) (by decide +kernel)), wa_mi_Wires_measure, wb_mi_Wires_measure, _, _, rfl⟩)
set_option maxRecDepth 100000 in
theorem lk_0_98 : pm_OM pt_cl pt_Ts tables_1 pt_cn (pt_cn 0) 98 mi_Tone_comesTo 1 := Or.inr (Or.inl ⟨rfl, ok_mi_Tone_comesTo, Or.inl (pt_w_ok (i := 808) (by decide +kernel)), wa_mi_Tone_comesTo, wb_mi_Tone_comesTo, _, _, rfl⟩)
set_option maxRecDepth 100000 in
theorem lk_0_111 : pm_OM pt_cl pt_Ts tables_1 pt_cn (pt_cn 0) 111 mi_Bench_columnsRead 1 := Or.inr (Or.inl ⟨rfl, ok_mi_Bench_columnsRead, Or.inl (pt_w_ok (i := 837) (by decide +kernel)), wa_mi_Bench_columnsRead, wb_mi_Bench_columnsRead, _, _, rfl⟩)
set_option maxRecDepth 100000 in
theorem lk_0_115 : pm_OM pt_cl pt_Ts tables_1 pt_cn (pt_cn 0) 115 mi_Bench_fill 1 := Or.inr (Or.inl ⟨rfl, ok_mi_Bench_fill, Or.inl (pt_w_ok (i := 849) (by decide +kernel)), wa_mi_Bench_fill, wb_mi_Bench_fill, _, _, rfl⟩)
set_option maxRecDepth 100000 in
theorem lk_0_122 : pm_OM pt_cl pt_Ts tables_1 pt_cn (pt_cn 0) 122 mi_Plan_worlds 1 := Or.inr (Or.inl ⟨rfl, ok_mi_Plan_worlds, Or.inl (pt_w_ok (i := 853) (by decide +kernel)), wa_mi_Plan_worlds, wb_mi_Plan_worlds, _, _, rfl⟩)
set_option maxRecDepth 100000 in
theorem lk_0_126 : pm_OM pt_cl pt_Ts tables_1 pt_cn (pt_cn 0) 126 mi_Bench_fits 1 := Or.inr (Or.inl ⟨rfl, ok_mi_Bench_fits, Or.inl (pt_w_ok (i := 861) (by decide +kernel)), wa_mi_Bench_fits, wb_mi_Bench_fits, _, _, rfl⟩)
set_option maxRecDepth 100000 in
theorem lk_0_130 : pm_OM pt_cl pt_Ts tables_1 pt_cn (pt_cn 0) 130 mi_Sheet_addFit 1 := Or.inr (Or.inl ⟨rfl, ok_mi_Sheet_addFit, Or.inl (pt_w_ok (i := 870) (by decide +kernel)), wa_mi_Sheet_addFit, wb_mi_Sheet_addFit, _, _, rfl⟩)
set_option maxRecDepth 100000 in
theorem lk_0_137 : pm_OM pt_cl pt_Ts tables_1 pt_cn (pt_cn 0) 137 mi_Ledger_size 1 := Or.inr (Or.inl ⟨rfl, ok_mi_Ledger_size, Or.inl (pt_w_ok (i := 841) (by decide +kernel)), wa_mi_Ledger_size, wb_mi_Ledger_size, _, _, rfl⟩)
set_option maxRecDepth 100000 in
theorem lk_0_140 : pm_OM pt_cl pt_Ts tables_1 pt_cn (pt_cn 0) 140 mi_Bench_columnOfReading 1 := Or.inr (Or.inl ⟨rfl, ok_mi_Bench_columnOfReading, Or.inl (pt_w_ok (i := 842) (by decide +kernel)), wa_mi_Bench_columnOfReading, wb_mi_Bench_columnOfReading, _, _, rfl⟩)
set_option maxRecDepth 100000 in
theorem lk_0_144 : pm_OM pt_cl pt_Ts tables_1 pt_cn (pt_cn 0) 144 mi_Sheet_columnOf 0 := Or.inl ⟨rfl, ok_mi_Sheet_columnOf, Or.inl (pt_w_ok (i := 846) (by decide +kernel)), wa_mi_Sheet_columnOf⟩
set_option maxRecDepth 100000 in
theorem lk_0_148 : pm_OM pt_cl pt_Ts tables_1 pt_cn (pt_cn 0) 148 mi_Sheet_written 1 := Or.inr (Or.inl ⟨rfl, ok_mi_Sheet_written, Or.inl (pt_w_ok (i := 865) (by decide +kernel)), wa_mi_Sheet_written, wb_mi_Sheet_written, _, _, rfl⟩)
set_option maxRecDepth 100000 in
theorem lk_0_154 : pm_OM pt_cl pt_Ts tables_1 pt_cn (pt_cn 0) 154 mi_Wires_lay 1 := Or.inr (Or.inl ⟨rfl, ok_mi_Wires_lay, Or.inl (pt_w_ok (i := 854) (by decide +kernel)), wa_mi_Wires_lay, wb_mi_Wires_lay, _, _, rfl⟩)
set_option maxRecDepth 100000 in
theorem lk_0_157 : pm_OM pt_cl pt_Ts tables_1 pt_cn (pt_cn 0) 157 mi_Bench_tell 1 := Or.inr (Or.inl ⟨rfl, ok_mi_Bench_tell, Or.inl (pt_w_ok (i := 855) (by decide +kernel)), wa_mi_Bench_tell, wb_mi_Bench_tell, _, _, rfl⟩)
set_option maxRecDepth 100000 in
theorem lk_0_161 : pm_OM pt_cl pt_Ts tables_1 pt_cn (pt_cn 0) 161 mi_Sheet_write 1 := Or.inr (Or.inl ⟨rfl, ok_mi_Sheet_write, Or.inl (pt_w_ok (i := 856) (by decide +kernel)), wa_mi_Sheet_write, wb_mi_Sheet_write, _, _, rfl⟩)
set_option maxRecDepth 100000 in
theorem lk_0_165 : pm_OM pt_cl pt_Ts tables_1 pt_cn (pt_cn 0) 165 mi_Sheet_fitAt 1 := Or.inr (Or.inl ⟨rfl, ok_mi_Sheet_fitAt, Or.inl (pt_w_ok (i := 918) (by decide +kernel)), wa_mi_Sheet_fitAt, wb_mi_Sheet_fitAt, _, _, rfl⟩)
set_option maxRecDepth 100000 in
theorem lk_0_168 : pm_OM pt_cl pt_Ts tables_1 pt_cn (pt_cn 0) 168 mi_BP_valueAt 0 := Or.inl ⟨rfl, ok_mi_BP_valueAt, Or.inr ⟨"BuriedPairs", pt_n_ok (i := 919) (by decide +kernel)⟩, wa_mi_BP_valueAt⟩
set_option maxRecDepth 100000 in
theorem lk_0_172 : pm_OM pt_cl pt_Ts tables_1 pt_cn (pt_cn 0) 172 mi_BP_setAt 0 := Or.inl ⟨rfl, ok_mi_BP_setAt, Or.inr ⟨"BuriedPairs", pt_n_ok (i := 920) (by decide +kernel)⟩, wa_mi_BP_setAt⟩
set_option maxRecDepth 100000 in
theorem lk_0_176 : pm_OM pt_cl pt_Ts tables_1 pt_cn (pt_cn 0) 176 mi_Arr_fill 5 := Or.inr (Or.inr (Or.inr (Or.inr (Or.inr (Or.inl ⟨rfl, pt_w_ok (i := 921) (by decide +kernel), pt_w_ok (i := 116) (by decide +kernel), pt_w_ok (i := 10) (by decide +kernel), pt_w_ok (i := 117) (by decide +kernel)⟩)))))
set_option maxRecDepth 100000 in
theorem lk_0_181 : pm_OM pt_cl pt_Ts tables_1 pt_cn (pt_cn 0) 181 mi_Plan_boxOfTest 1 := Or.inr (Or.inl ⟨rfl, ok_mi_Plan_boxOfTest, Or.inl (pt_w_ok (i := 935) (by decide +kernel)), wa_mi_Plan_boxOfTest, wb_mi_Plan_boxOfTest, _, _, rfl⟩)
set_option maxRecDepth 100000 in
theorem lk_0_184 : pm_OM pt_cl pt_Ts tables_1 pt_cn (pt_cn 0) 184 mi_Plan_way 1 := Or.inr (Or.inl ⟨rfl, ok_mi_Plan_way, Or.inl (pt_w_ok (i := 939) (by decide +kernel)), wa_mi_Plan_way, wb_mi_Plan_way, _, _, rfl⟩)
set_option maxRecDepth 100000 in
theorem lk_0_187 : pm_OM pt_cl pt_Ts tables_1 pt_cn (pt_cn 0) 187 mi_Bench_partFits 1 := Or.inr (Or.inl ⟨rfl, ok_mi_Bench_partFits, Or.inl (pt_w_ok (i := 948) (by decide +kernel)), wa_mi_Bench_partFits, wb_mi_Bench_partFits, _, _, rfl⟩)
set_option maxRecDepth 100000 in
theorem lk_0_191 : pm_OM pt_cl pt_Ts tables_1 pt_cn (pt_cn 0) 191 mi_BP_cableOf 0 := Or.inl ⟨rfl, ok_mi_BP_cableOf, Or.inr ⟨"BuriedPairs", pt_n_ok (i := 962) (by decide +kernel)⟩, wa_mi_BP_cableOf⟩
set_option maxRecDepth 100000 in
theorem lk_0_194 : pm_OM pt_cl pt_Ts tables_1 pt_cn (pt_cn 0) 194 mi_Plan_lengthOf 1 := Or.inr (Or.inl ⟨rfl, ok_mi_Plan_lengthOf, Or.inl (pt_w_ok (i := 963) (by decide +kernel)), wa_mi_Plan_lengthOf, wb_mi_Plan_lengthOf, _, _, rfl⟩)
set_option maxRecDepth 100000 in
theorem lk_0_197 : pm_OM pt_cl pt_Ts tables_1 pt_cn (pt_cn 0) 197 mi_Bench_explains 1 := Or.inr (Or.inl ⟨rfl, ok_mi_Bench_explains, Or.inl (pt_w_ok (i := 964) (by decide +kernel)), wa_mi_Bench_explains, wb_mi_Bench_explains, _, _, rfl⟩)
set_option maxRecDepth 100000 in
theorem lk_0_201 : pm_OM pt_cl pt_Ts tables_1 pt_cn (pt_cn 0) 201 mi_Wires_cut 1 := Or.inr (Or.inl ⟨rfl, ok_mi_Wires_cut, Or.inl (pt_w_ok (i := 968) (by decide +kernel)), wa_mi_Wires_cut, wb_mi_Wires_cut, _, _, rfl⟩)
set_option maxRecDepth 100000 in
theorem lk_0_205 : pm_OM pt_cl pt_Ts tables_1 pt_cn (pt_cn 0) 205 mi_Arr_fill 7 := Or.inr (Or.inr (Or.inr (Or.inr (Or.inr (Or.inr (Or.inr (Or.inl ⟨rfl, pt_w_ok (i := 969) (by decide +kernel), pt_w_ok (i := 970) (by decide +kernel), pt_w_ok (i := 10) (by decide +kernel), pt_w_ok (i := 971) (by decide +kernel)⟩)))))))
set_option maxRecDepth 100000 in
theorem lk_1_3 : pm_OM pt_cl pt_Ts tables_1 pt_cn (pt_cn 1) 3 mi_Arr_fill 3 := Or.inr (Or.inr (Or.inr (Or.inl ⟨rfl, pt_w_ok (i := 79) (by decide +kernel), pt_w_ok (i := 28) (by decide +kernel), pt_w_ok (i := 29) (by decide +kernel)⟩)))
set_option maxRecDepth 100000 in
theorem lk_1_24 : pm_OM pt_cl pt_Ts tables_1 pt_cn (pt_cn 1) 24 mi_Arr_fill 0 := Or.inl ⟨rfl, ok_mi_Arr_fill, Or.inl (pt_w_ok (i := 80) (by decide +kernel)), wa_mi_Arr_fill⟩
set_option maxRecDepth 100000 in
theorem lk_1_30 : pm_OM pt_cl pt_Ts tables_1 pt_cn (pt_cn 1) 30 mi_Arr_fill 4 := Or.inr (Or.inr (Or.inr (Or.inr (Or.inl ⟨rfl, pt_w_ok (i := 517) (by decide +kernel), pt_w_ok (i := 519) (by decide +kernel), pt_w_ok (i := 518) (by decide +kernel), pt_w_ok (i := 15) (by decide +kernel)⟩))))
set_option maxRecDepth 100000 in
theorem lk_1_36 : pm_OM pt_cl pt_Ts tables_1 pt_cn (pt_cn 1) 36 mi_BP_valueAt 0 := Or.inl ⟨rfl, ok_mi_BP_valueAt, Or.inr ⟨"BuriedPairs", pt_n_ok (i := 499) (by decide +kernel)⟩, wa_mi_BP_valueAt⟩
set_option maxRecDepth 100000 in
theorem lk_1_40 : pm_OM pt_cl pt_Ts tables_1 pt_cn (pt_cn 1) 40 mi_BP_setAt 0 := Or.inl ⟨rfl, ok_mi_BP_setAt, Or.inr ⟨"BuriedPairs", pt_n_ok (i := 500) (by decide +kernel)⟩, wa_mi_BP_setAt⟩
set_option maxRecDepth 100000 in
theorem lk_1_44 : pm_OM pt_cl pt_Ts tables_1 pt_cn (pt_cn 1) 44 mi_Layout_join 1 := Or.inr (Or.inl ⟨rfl, ok_mi_Layout_join, Or.inl (pt_w_ok (i := 560) (by decide +kernel)), wa_mi_Layout_join, wb_mi_Layout_join, _, _, rfl⟩)
set_option maxRecDepth 100000 in
theorem lk_1_48 : pm_OM pt_cl pt_Ts tables_1 pt_cn (pt_cn 1) 48 mi_Layout_hang 1 := Or.inr (Or.inl ⟨rfl, ok_mi_Layout_hang, Or.inl (pt_w_ok (i := 561) (by decide +kernel)), wa_mi_Layout_hang, wb_mi_Layout_hang, _, _, rfl⟩)
set_option maxRecDepth 100000 in
theorem lk_2_3 : pm_OM pt_cl pt_Ts tables_1 pt_cn (pt_cn 2) 3 mi_Arr_fill 3 := Or.inr (Or.inr (Or.inr (Or.inl ⟨rfl, pt_w_ok (i := 114) (by decide +kernel), pt_w_ok (i := 28) (by decide +kernel), pt_w_ok (i := 29) (by decide +kernel)⟩)))
set_option maxRecDepth 100000 in
theorem lk_2_9 : pm_OM pt_cl pt_Ts tables_1 pt_cn (pt_cn 2) 9 mi_Arr_fill 5 := Or.inr (Or.inr (Or.inr (Or.inr (Or.inr (Or.inl ⟨rfl, pt_w_ok (i := 115) (by decide +kernel), pt_w_ok (i := 116) (by decide +kernel), pt_w_ok (i := 10) (by decide +kernel), pt_w_ok (i := 117) (by decide +kernel)⟩)))))
set_option maxRecDepth 100000 in
theorem lk_2_28 : pm_OM pt_cl pt_Ts tables_1 pt_cn (pt_cn 2) 28 mi_BP_setAt 0 := Or.inl ⟨rfl, ok_mi_BP_setAt, Or.inr ⟨"BuriedPairs", pt_n_ok (i := 462) (by decide +kernel)⟩, wa_mi_BP_setAt⟩
set_option maxRecDepth 100000 in
theorem lk_3_3 : pm_OM pt_cl pt_Ts tables_1 pt_cn (pt_cn 3) 3 mi_Arr_fill 3 := Or.inr (Or.inr (Or.inr (Or.inl ⟨rfl, pt_w_ok (i := 315) (by decide +kernel), pt_w_ok (i := 28) (by decide +kernel), pt_w_ok (i := 29) (by decide +kernel)⟩)))
set_option maxRecDepth 100000 in
theorem lk_3_31 : pm_OM pt_cl pt_Ts tables_1 pt_cn (pt_cn 3) 31 mi_BP_valueAt 0 := Or.inl ⟨rfl, ok_mi_BP_valueAt, Or.inr ⟨"BuriedPairs", pt_n_ok (i := 997) (by decide +kernel)⟩, wa_mi_BP_valueAt⟩
set_option maxRecDepth 100000 in
theorem lk_3_35 : pm_OM pt_cl pt_Ts tables_1 pt_cn (pt_cn 3) 35 mi_Wires_homeOf 1 := Or.inr (Or.inl ⟨rfl, ok_mi_Wires_homeOf, Or.inl (pt_w_ok (i := 993) (by decide +kernel)), wa_mi_Wires_homeOf, wb_mi_Wires_homeOf, _, _, rfl⟩)
set_option maxRecDepth 100000 in
theorem lk_3_41 : pm_OM pt_cl pt_Ts tables_1 pt_cn (pt_cn 3) 41 mi_BP_cableOf 0 := Or.inl ⟨rfl, ok_mi_BP_cableOf, Or.inr ⟨"BuriedPairs", pt_n_ok (i := 994) (by decide +kernel)⟩, wa_mi_BP_cableOf⟩
set_option maxRecDepth 100000 in
theorem lk_3_44 : pm_OM pt_cl pt_Ts tables_1 pt_cn (pt_cn 3) 44 mi_BP_pairOf 0 := Or.inl ⟨rfl, ok_mi_BP_pairOf, Or.inr ⟨"BuriedPairs", pt_n_ok (i := 995) (by decide +kernel)⟩, wa_mi_BP_pairOf⟩
set_option maxRecDepth 100000 in
theorem lk_3_47 : pm_OM pt_cl pt_Ts tables_1 pt_cn (pt_cn 3) 47 mi_BP_setAt 0 := Or.inl ⟨rfl, ok_mi_BP_setAt, Or.inr ⟨"BuriedPairs", pt_n_ok (i := 996) (by decide +kernel)⟩, wa_mi_BP_setAt⟩
set_option maxRecDepth 100000 in
theorem lk_3_60 : pm_OM pt_cl pt_Ts tables_1 pt_cn (pt_cn 3) 60 mi_Mover_moveHome 1 := Or.inr (Or.inl ⟨rfl, ok_mi_Mover_moveHome, Or.inl (pt_w_ok (i := 998) (by decide +kernel)), wa_mi_Mover_moveHome, wb_mi_Mover_moveHome, _, _, rfl⟩)
set_option maxRecDepth 100000 in
theorem lk_3_64 : pm_OM pt_cl pt_Ts tables_1 pt_cn (pt_cn 3) 64 mi_Mover_moveAside 1 := Or.inr (Or.inl ⟨rfl, ok_mi_Mover_moveAside, Or.inl (pt_w_ok (i := 1014) (by decide +kernel)), wa_mi_Mover_moveAside, wb_mi_Mover_moveAside, _, _, rfl⟩)
set_option maxRecDepth 100000 in
theorem lk_3_67 : pm_OM pt_cl pt_Ts tables_1 pt_cn (pt_cn 3) 67 mi_Mover_freePairs 1 := Or.inr (Or.inl ⟨rfl, ok_mi_Mover_freePairs, Or.inl (pt_w_ok (i := 1002) (by decide +kernel)), wa_mi_Mover_freePairs, wb_mi_Mover_freePairs, _, _, rfl⟩)
set_option maxRecDepth 100000 in
theorem lk_3_71 : pm_OM pt_cl pt_Ts tables_1 pt_cn (pt_cn 3) 71 mi_Mover_isAstray 1 := Or.inr (Or.inl ⟨rfl, ok_mi_Mover_isAstray, Or.inl (pt_w_ok (i := 1006) (by decide +kernel)), wa_mi_Mover_isAstray, wb_mi_Mover_isAstray, _, _, rfl⟩)
set_option maxRecDepth 100000 in
theorem lk_3_75 : pm_OM pt_cl pt_Ts tables_1 pt_cn (pt_cn 3) 75 mi_Mover_move 1 := Or.inr (Or.inl ⟨rfl, ok_mi_Mover_move, Or.inl (pt_w_ok (i := 1010) (by decide +kernel)), wa_mi_Mover_move, wb_mi_Mover_move, _, _, rfl⟩)
set_option maxRecDepth 100000 in
theorem lk_3_79 : pm_OM pt_cl pt_Ts tables_1 pt_cn (pt_cn 3) 79 mi_Mover_houseOn 1 := Or.inr (Or.inl ⟨rfl, ok_mi_Mover_houseOn, Or.inl (pt_w_ok (i := 1018) (by decide +kernel)), wa_mi_Mover_houseOn, wb_mi_Mover_houseOn, _, _, rfl⟩)
set_option maxRecDepth 100000 in
theorem lk_3_82 : pm_OM pt_cl pt_Ts tables_1 pt_cn (pt_cn 3) 82 mi_Mover_lowestOf 0 := Or.inl ⟨rfl, ok_mi_Mover_lowestOf, Or.inl (pt_w_ok (i := 1022) (by decide +kernel)), wa_mi_Mover_lowestOf⟩
set_option maxRecDepth 100000 in
theorem lk_4_3 : pm_OM pt_cl pt_Ts tables_1 pt_cn (pt_cn 4) 3 mi_Arr_fill 3 := Or.inr (Or.inr (Or.inr (Or.inl ⟨rfl, pt_w_ok (i := 108) (by decide +kernel), pt_w_ok (i := 28) (by decide +kernel), pt_w_ok (i := 29) (by decide +kernel)⟩)))
set_option maxRecDepth 100000 in
theorem lk_4_17 : pm_OM pt_cl pt_Ts tables_1 pt_cn (pt_cn 4) 17 mi_Ledger_init 2 := Or.inr (Or.inr (Or.inl ⟨rfl, ok_mi_Ledger_init, Or.inl (pt_w_ok (i := 111) (by decide +kernel)), wa_mi_Ledger_init, rfl, rfl⟩))
set_option maxRecDepth 100000 in
theorem lk_4_33 : pm_OM pt_cl pt_Ts tables_1 pt_cn (pt_cn 4) 33 mi_Layout_init 2 := Or.inr (Or.inr (Or.inl ⟨rfl, ok_mi_Layout_init, Or.inl (pt_w_ok (i := 129) (by decide +kernel)), wa_mi_Layout_init, rfl, rfl⟩))
set_option maxRecDepth 100000 in
theorem lk_4_58 : pm_OM pt_cl pt_Ts tables_1 pt_cn (pt_cn 4) 58 mi_Sheet_init 2 := Or.inr (Or.inr (Or.inl ⟨rfl, ok_mi_Sheet_init, Or.inl (pt_w_ok (i := 132) (by decide +kernel)), wa_mi_Sheet_init, rfl, rfl⟩))
set_option maxRecDepth 100000 in
theorem lk_4_63 : pm_OM pt_cl pt_Ts tables_1 pt_cn (pt_cn 4) 63 mi_Arr_fill 0 := Or.inl ⟨rfl, ok_mi_Arr_fill, Or.inl (pt_w_ok (i := 158) (by decide +kernel)), wa_mi_Arr_fill⟩
set_option maxRecDepth 100000 in
theorem lk_4_69 : pm_OM pt_cl pt_Ts tables_1 pt_cn (pt_cn 4) 69 mi_Ledger_dropTo 1 := Or.inr (Or.inl ⟨rfl, ok_mi_Ledger_dropTo, Or.inl (pt_w_ok (i := 397) (by decide +kernel)), wa_mi_Ledger_dropTo, wb_mi_Ledger_dropTo, _, _, rfl⟩)
set_option maxRecDepth 100000 in
theorem lk_4_72 : pm_OM pt_cl pt_Ts tables_1 pt_cn (pt_cn 4) 72 mi_Layout_clear 1 := Or.inr (Or.inl ⟨rfl, ok_mi_Layout_clear, Or.inl (pt_w_ok (i := 401) (by decide +kernel)), wa_mi_Layout_clear, wb_mi_Layout_clear, _, _, rfl⟩)
set_option maxRecDepth 100000 in
theorem lk_4_75 : pm_OM pt_cl pt_Ts tables_1 pt_cn (pt_cn 4) 75 mi_Ledger_add 1 := Or.inr (Or.inl ⟨rfl, ok_mi_Ledger_add, Or.inl (pt_w_ok (i := 458) (by decide +kernel)), wa_mi_Ledger_add, wb_mi_Ledger_add, _, _, rfl⟩)
set_option maxRecDepth 100000 in
theorem lk_4_79 : pm_OM pt_cl pt_Ts tables_1 pt_cn (pt_cn 4) 79 mi_BP_setAt 0 := Or.inl ⟨rfl, ok_mi_BP_setAt, Or.inr ⟨"BuriedPairs", pt_n_ok (i := 463) (by decide +kernel)⟩, wa_mi_BP_setAt⟩
set_option maxRecDepth 100000 in
theorem lk_4_83 : pm_OM pt_cl pt_Ts tables_1 pt_cn (pt_cn 4) 83 mi_Layout_copy 1 := Or.inr (Or.inl ⟨rfl, ok_mi_Layout_copy, Or.inl (pt_w_ok (i := 513) (by decide +kernel)), wa_mi_Layout_copy, wb_mi_Layout_copy, _, _, rfl⟩)
set_option maxRecDepth 100000 in
theorem lk_4_87 : pm_OM pt_cl pt_Ts tables_1 pt_cn (pt_cn 4) 87 mi_Ledger_size 1 := Or.inr (Or.inl ⟨rfl, ok_mi_Ledger_size, Or.inl (pt_w_ok (i := 520) (by decide +kernel)), wa_mi_Ledger_size, wb_mi_Ledger_size, _, _, rfl⟩)
set_option maxRecDepth 100000 in
theorem lk_4_91 : pm_OM pt_cl pt_Ts tables_1 pt_cn (pt_cn 4) 91 mi_Ledger_at 1 := Or.inr (Or.inl ⟨rfl, ok_mi_Ledger_at, Or.inl (pt_w_ok (i := 476) (by decide +kernel)), wa_mi_Ledger_at, wb_mi_Ledger_at, _, _, rfl⟩)
set_option maxRecDepth 100000 in
theorem lk_4_95 : pm_OM pt_cl pt_Ts tables_1 pt_cn (pt_cn 4) 95 mi_Plan_pairsOf 1 := Or.inr (Or.inl ⟨rfl, ok_mi_Plan_pairsOf, Or.inl (pt_w_ok (i := 521) (by decide +kernel)), wa_mi_Plan_pairsOf, wb_mi_Plan_pairsOf, _, _, rfl⟩)
set_option maxRecDepth 100000 in
theorem lk_4_99 : pm_OM pt_cl pt_Ts tables_1 pt_cn (pt_cn 4) 99 mi_Ledger_has 1 := Or.inr (Or.inl ⟨rfl, ok_mi_Ledger_has, Or.inl (pt_w_ok (i := 484) (by decide +kernel)), wa_mi_Ledger_has, wb_mi_Ledger_has, _, _, rfl⟩)
set_option maxRecDepth 100000 in
theorem lk_4_103 : pm_OM pt_cl pt_Ts tables_1 pt_cn (pt_cn 4) 103 mi_Plan_worlds 1 := Or.inr (Or.inl ⟨rfl, ok_mi_Plan_worlds, Or.inl (pt_w_ok (i := 600) (by decide +kernel)), wa_mi_Plan_worlds, wb_mi_Plan_worlds, _, _, rfl⟩)
set_option maxRecDepth 100000 in
theorem lk_4_106 : pm_OM pt_cl pt_Ts tables_1 pt_cn (pt_cn 4) 106 mi_Plan_hasBox 1 := Or.inr (Or.inl ⟨rfl, ok_mi_Plan_hasBox, Or.inl (pt_w_ok (i := 449) (by decide +kernel)), wa_mi_Plan_hasBox, wb_mi_Plan_hasBox, _, _, rfl⟩)
set_option maxRecDepth 100000 in
theorem lk_4_109 : pm_OM pt_cl pt_Ts tables_1 pt_cn (pt_cn 4) 109 mi_BP_valueAt 0 := Or.inl ⟨rfl, ok_mi_BP_valueAt, Or.inr ⟨"BuriedPairs", pt_n_ok (i := 453) (by decide +kernel)⟩, wa_mi_BP_valueAt⟩
set_option maxRecDepth 100000 in
theorem lk_4_113 : pm_OM pt_cl pt_Ts tables_1 pt_cn (pt_cn 4) 113 mi_Plan_boxAt 1 := Or.inr (Or.inl ⟨rfl, ok_mi_Plan_boxAt, Or.inl (pt_w_ok (i := 488) (by decide +kernel)), wa_mi_Plan_boxAt, wb_mi_Plan_boxAt, _, _, rfl⟩)
set_option maxRecDepth 100000 in
theorem lk_4_116 : pm_OM pt_cl pt_Ts tables_1 pt_cn (pt_cn 4) 116 mi_Layout_work 1 := Or.inr (Or.inl ⟨rfl, ok_mi_Layout_work, Or.inl (pt_w_ok (i := 556) (by decide +kernel)), wa_mi_Layout_work, wb_mi_Layout_work, _, _, rfl⟩)
set_option maxRecDepth 100000 in
theorem lk_4_120 : pm_OM pt_cl pt_Ts tables_1 pt_cn (pt_cn 4) 120 mi_Sheet_forgetAll 1 := Or.inr (Or.inl ⟨rfl, ok_mi_Sheet_forgetAll, Or.inl (pt_w_ok (i := 562) (by decide +kernel)), wa_mi_Sheet_forgetAll, wb_mi_Sheet_forgetAll, _, _, rfl⟩)
set_option maxRecDepth 100000 in
theorem lk_4_123 : pm_OM pt_cl pt_Ts tables_1 pt_cn (pt_cn 4) 123 mi_Plan_hasPair 1 := Or.inr (Or.inl ⟨rfl, ok_mi_Plan_hasPair, Or.inl (pt_w_ok (i := 574) (by decide +kernel)), wa_mi_Plan_hasPair, wb_mi_Plan_hasPair, _, _, rfl⟩)
set_option maxRecDepth 100000 in
theorem lk_4_127 : pm_OM pt_cl pt_Ts tables_1 pt_cn (pt_cn 4) 127 mi_Plan_lengthOf 1 := Or.inr (Or.inl ⟨rfl, ok_mi_Plan_lengthOf, Or.inl (pt_w_ok (i := 575) (by decide +kernel)), wa_mi_Plan_lengthOf, wb_mi_Plan_lengthOf, _, _, rfl⟩)
set_option maxRecDepth 100000 in
theorem lk_4_130 : pm_OM pt_cl pt_Ts tables_1 pt_cn (pt_cn 4) 130 mi_Sheet_forgetFits 1 := Or.inr (Or.inl ⟨rfl, ok_mi_Sheet_forgetFits, Or.inl (pt_w_ok (i := 817) (by decide +kernel)), wa_mi_Sheet_forgetFits, wb_mi_Sheet_forgetFits, _, _, rfl⟩)
set_option maxRecDepth 100000 in
theorem lk_4_133 : pm_OM pt_cl pt_Ts tables_1 pt_cn (pt_cn 4) 133 mi_Arr_fill 6 := Or.inr (Or.inr (Or.inr (Or.inr (Or.inr (Or.inr (Or.inl ⟨rfl, pt_w_ok (i := 943) (by decide +kernel), pt_w_ok (i := 944) (by decide +kernel), pt_w_ok (i := 10) (by decide +kernel), pt_w_ok (i := 945) (by decide +kernel)⟩))))))
set_option maxRecDepth 100000 in
theorem lk_4_138 : pm_OM pt_cl pt_Ts tables_1 pt_cn (pt_cn 4) 138 mi_Arr_fill 5 := Or.inr (Or.inr (Or.inr (Or.inr (Or.inr (Or.inl ⟨rfl, pt_w_ok (i := 946) (by decide +kernel), pt_w_ok (i := 116) (by decide +kernel), pt_w_ok (i := 10) (by decide +kernel), pt_w_ok (i := 117) (by decide +kernel)⟩)))))
set_option maxRecDepth 100000 in
theorem lk_4_141 : pm_OM pt_cl pt_Ts tables_1 pt_cn (pt_cn 4) 141 mi_Plan_cableTo 1 := Or.inr (Or.inl ⟨rfl, ok_mi_Plan_cableTo, Or.inl (pt_w_ok (i := 947) (by decide +kernel)), wa_mi_Plan_cableTo, wb_mi_Plan_cableTo, _, _, rfl⟩)
set_option maxRecDepth 100000 in
theorem lk_4_147 : pm_OM pt_cl pt_Ts tables_1 pt_cn (pt_cn 4) 147 mi_BP_cableOf 0 := Or.inl ⟨rfl, ok_mi_BP_cableOf, Or.inr ⟨"BuriedPairs", pt_n_ok (i := 980) (by decide +kernel)⟩, wa_mi_BP_cableOf⟩
set_option maxRecDepth 100000 in
theorem lk_4_150 : pm_OM pt_cl pt_Ts tables_1 pt_cn (pt_cn 4) 150 mi_Plan_isWantedByOther 1 := Or.inr (Or.inl ⟨rfl, ok_mi_Plan_isWantedByOther, Or.inl (pt_w_ok (i := 981) (by decide +kernel)), wa_mi_Plan_isWantedByOther, wb_mi_Plan_isWantedByOther, _, _, rfl⟩)
set_option maxRecDepth 100000 in
theorem lk_5_3 : pm_OM pt_cl pt_Ts tables_1 pt_cn (pt_cn 5) 3 mi_Arr_fill 3 := Or.inr (Or.inr (Or.inr (Or.inl ⟨rfl, pt_w_ok (i := 135) (by decide +kernel), pt_w_ok (i := 28) (by decide +kernel), pt_w_ok (i := 29) (by decide +kernel)⟩)))
set_option maxRecDepth 100000 in
theorem lk_5_31 : pm_OM pt_cl pt_Ts tables_1 pt_cn (pt_cn 5) 31 mi_BP_setAt 0 := Or.inl ⟨rfl, ok_mi_BP_setAt, Or.inr ⟨"BuriedPairs", pt_n_ok (i := 860) (by decide +kernel)⟩, wa_mi_BP_setAt⟩
set_option maxRecDepth 100000 in
theorem lk_5_35 : pm_OM pt_cl pt_Ts tables_1 pt_cn (pt_cn 5) 35 mi_BP_valueAt 0 := Or.inl ⟨rfl, ok_mi_BP_valueAt, Or.inr ⟨"BuriedPairs", pt_n_ok (i := 869) (by decide +kernel)⟩, wa_mi_BP_valueAt⟩
set_option maxRecDepth 100000 in
theorem lk_5_39 : pm_OM pt_cl pt_Ts tables_1 pt_cn (pt_cn 5) 39 mi_Sheet_fitAt 1 := Or.inr (Or.inl ⟨rfl, ok_mi_Sheet_fitAt, Or.inl (pt_w_ok (i := 886) (by decide +kernel)), wa_mi_Sheet_fitAt, wb_mi_Sheet_fitAt, _, _, rfl⟩)
set_option maxRecDepth 100000 in
theorem lk_5_43 : pm_OM pt_cl pt_Ts tables_1 pt_cn (pt_cn 5) 43 mi_Sheet_comesBefore 0 := Or.inl ⟨rfl, ok_mi_Sheet_comesBefore, Or.inl (pt_w_ok (i := 887) (by decide +kernel)), wa_mi_Sheet_comesBefore⟩
set_option maxRecDepth 100000 in
theorem lk_5_47 : pm_OM pt_cl pt_Ts tables_1 pt_cn (pt_cn 5) 47 mi_Int_bitCount 0 := Or.inl ⟨rfl, ok_mi_Int_bitCount, Or.inl (pt_w_ok (i := 890) (by decide +kernel)), wa_mi_Int_bitCount⟩
set_option maxRecDepth 100000 in
theorem lk_6_3 : pm_OM pt_cl pt_Ts tables_1 pt_cn (pt_cn 6) 3 mi_Arr_fill 3 := Or.inr (Or.inr (Or.inr (Or.inl ⟨rfl, pt_w_ok (i := 35) (by decide +kernel), pt_w_ok (i := 28) (by decide +kernel), pt_w_ok (i := 29) (by decide +kernel)⟩)))
set_option maxRecDepth 100000 in
theorem lk_6_19 : pm_OM pt_cl pt_Ts tables_1 pt_cn (pt_cn 6) 19 mi_BP_valueAt 0 := Or.inl ⟨rfl, ok_mi_BP_valueAt, Or.inr ⟨"BuriedPairs", pt_n_ok (i := 417) (by decide +kernel)⟩, wa_mi_BP_valueAt⟩
set_option maxRecDepth 100000 in
theorem lk_6_23 : pm_OM pt_cl pt_Ts tables_1 pt_cn (pt_cn 6) 23 mi_BP_setAt 0 := Or.inl ⟨rfl, ok_mi_BP_setAt, Or.inr ⟨"BuriedPairs", pt_n_ok (i := 374) (by decide +kernel)⟩, wa_mi_BP_setAt⟩
set_option maxRecDepth 100000 in
theorem lk_7_3 : pm_OM pt_cl pt_Ts tables_1 pt_cn (pt_cn 7) 3 mi_Arr_fill 3 := Or.inr (Or.inr (Or.inr (Or.inl ⟨rfl, pt_w_ok (i := 49) (by decide +kernel), pt_w_ok (i := 28) (by decide +kernel), pt_w_ok (i := 29) (by decide +kernel)⟩)))
set_option maxRecDepth 100000 in
theorem lk_7_22 : pm_OM pt_cl pt_Ts tables_1 pt_cn (pt_cn 7) 22 mi_Plan_clearText 1 := Or.inr (Or.inl ⟨rfl, ok_mi_Plan_clearText, Or.inl (pt_w_ok (i := 393) (by decide +kernel)), wa_mi_Plan_clearText, wb_mi_Plan_clearText, _, _, rfl⟩)
set_option maxRecDepth 100000 in
theorem lk_7_27 : pm_OM pt_cl pt_Ts tables_1 pt_cn (pt_cn 7) 27 mi_Reader_readBoxes 1 := Or.inr (Or.inl ⟨rfl, ok_mi_Reader_readBoxes, Or.inl (pt_w_ok (i := 405) (by decide +kernel)), wa_mi_Reader_readBoxes, wb_mi_Reader_readBoxes, _, _, rfl⟩)
set_option maxRecDepth 100000 in
theorem lk_7_31 : pm_OM pt_cl pt_Ts tables_1 pt_cn (pt_cn 7) 31 mi_Reader_comesMore 1 := Or.inr (Or.inl ⟨rfl, ok_mi_Reader_comesMore, Or.inl (pt_w_ok (i := 432) (by decide +kernel)), wa_mi_Reader_comesMore, wb_mi_Reader_comesMore, _, _, rfl⟩)
set_option maxRecDepth 100000 in
theorem lk_7_35 : pm_OM pt_cl pt_Ts tables_1 pt_cn (pt_cn 7) 35 mi_Reader_readStatement 1 := Or.inr (Or.inl ⟨rfl, ok_mi_Reader_readStatement, Or.inl (pt_w_ok (i := 437) (by decide +kernel)), wa_mi_Reader_readStatement, wb_mi_Reader_readStatement, _, _, rfl⟩)
set_option maxRecDepth 100000 in
theorem lk_7_38 : pm_OM pt_cl pt_Ts tables_1 pt_cn (pt_cn 7) 38 mi_Plan_settleText 1 := Or.inr (Or.inl ⟨rfl, ok_mi_Plan_settleText, Or.inl (pt_w_ok (i := 509) (by decide +kernel)), wa_mi_Plan_settleText, wb_mi_Plan_settleText, _, _, rfl⟩)
set_option maxRecDepth 100000 in
theorem lk_7_41 : pm_OM pt_cl pt_Ts tables_1 pt_cn (pt_cn 7) 41 mi_Reader_skipBlanks 1 := Or.inr (Or.inl ⟨rfl, ok_mi_Reader_skipBlanks, Or.inl (pt_w_ok (i := 409) (by decide +kernel)), wa_mi_Reader_skipBlanks, wb_mi_Reader_skipBlanks, _, _, rfl⟩)
set_option maxRecDepth 100000 in
theorem lk_7_44 : pm_OM pt_cl pt_Ts tables_1 pt_cn (pt_cn 7) 44 mi_Tape_byteAt 1 := Or.inr (Or.inl ⟨rfl, ok_mi_Tape_byteAt, Or.inl (pt_w_ok (i := 413) (by decide +kernel)), wa_mi_Tape_byteAt, wb_mi_Tape_byteAt, _, _, rfl⟩)
set_option maxRecDepth 100000 in
theorem lk_7_50 : pm_OM pt_cl pt_Ts tables_1 pt_cn (pt_cn 7) 50 mi_Reader_fail 1 := Or.inr (Or.inl ⟨rfl, ok_mi_Reader_fail, Or.inl (pt_w_ok (i := 420) (by decide +kernel)), wa_mi_Reader_fail, wb_mi_Reader_fail, _, _, rfl⟩)
set_option maxRecDepth 100000 in
theorem lk_7_54 : pm_OM pt_cl pt_Ts tables_1 pt_cn (pt_cn 7) 54 mi_Reader_number 1 := Or.inr (Or.inl ⟨rfl, ok_mi_Reader_number, Or.inl (pt_w_ok (i := 424) (by decide +kernel)), wa_mi_Reader_number, wb_mi_Reader_number, _, _, rfl⟩)
set_option maxRecDepth 100000 in
theorem lk_7_61 : pm_OM pt_cl pt_Ts tables_1 pt_cn (pt_cn 7) 61 mi_Tape_size 1 := Or.inr (Or.inl ⟨rfl, ok_mi_Tape_size, Or.inl (pt_w_ok (i := 436) (by decide +kernel)), wa_mi_Tape_size, wb_mi_Tape_size, _, _, rfl⟩)
set_option maxRecDepth 100000 in
theorem lk_7_65 : pm_OM pt_cl pt_Ts tables_1 pt_cn (pt_cn 7) 65 mi_Reader_readCable 1 := Or.inr (Or.inl ⟨rfl, ok_mi_Reader_readCable, Or.inl (pt_w_ok (i := 441) (by decide +kernel)), wa_mi_Reader_readCable, wb_mi_Reader_readCable, _, _, rfl⟩)
set_option maxRecDepth 100000 in
theorem lk_7_68 : pm_OM pt_cl pt_Ts tables_1 pt_cn (pt_cn 7) 68 mi_Reader_readJoint 1 := Or.inr (Or.inl ⟨rfl, ok_mi_Reader_readJoint, Or.inl (pt_w_ok (i := 464) (by decide +kernel)), wa_mi_Reader_readJoint, wb_mi_Reader_readJoint, _, _, rfl⟩)
set_option maxRecDepth 100000 in
theorem lk_7_71 : pm_OM pt_cl pt_Ts tables_1 pt_cn (pt_cn 7) 71 mi_Reader_readHouse 1 := Or.inr (Or.inl ⟨rfl, ok_mi_Reader_readHouse, Or.inl (pt_w_ok (i := 501) (by decide +kernel)), wa_mi_Reader_readHouse, wb_mi_Reader_readHouse, _, _, rfl⟩)
set_option maxRecDepth 100000 in
theorem lk_7_74 : pm_OM pt_cl pt_Ts tables_1 pt_cn (pt_cn 7) 74 mi_Plan_cableTo 1 := Or.inr (Or.inl ⟨rfl, ok_mi_Plan_cableTo, Or.inl (pt_w_ok (i := 445) (by decide +kernel)), wa_mi_Plan_cableTo, wb_mi_Plan_cableTo, _, _, rfl⟩)
set_option maxRecDepth 100000 in
theorem lk_7_77 : pm_OM pt_cl pt_Ts tables_1 pt_cn (pt_cn 7) 77 mi_Plan_addCable 1 := Or.inr (Or.inl ⟨rfl, ok_mi_Plan_addCable, Or.inl (pt_w_ok (i := 454) (by decide +kernel)), wa_mi_Plan_addCable, wb_mi_Plan_addCable, _, _, rfl⟩)
set_option maxRecDepth 100000 in
theorem lk_7_85 : pm_OM pt_cl pt_Ts tables_1 pt_cn (pt_cn 7) 85 mi_Ledger_size 1 := Or.inr (Or.inl ⟨rfl, ok_mi_Ledger_size, Or.inl (pt_w_ok (i := 468) (by decide +kernel)), wa_mi_Ledger_size, wb_mi_Ledger_size, _, _, rfl⟩)
set_option maxRecDepth 100000 in
theorem lk_7_88 : pm_OM pt_cl pt_Ts tables_1 pt_cn (pt_cn 7) 88 mi_Plan_pairsOf 1 := Or.inr (Or.inl ⟨rfl, ok_mi_Plan_pairsOf, Or.inl (pt_w_ok (i := 472) (by decide +kernel)), wa_mi_Plan_pairsOf, wb_mi_Plan_pairsOf, _, _, rfl⟩)
set_option maxRecDepth 100000 in
theorem lk_7_91 : pm_OM pt_cl pt_Ts tables_1 pt_cn (pt_cn 7) 91 mi_Plan_meet 1 := Or.inr (Or.inl ⟨rfl, ok_mi_Plan_meet, Or.inl (pt_w_ok (i := 480) (by decide +kernel)), wa_mi_Plan_meet, wb_mi_Plan_meet, _, _, rfl⟩)
set_option maxRecDepth 100000 in
theorem lk_7_99 : pm_OM pt_cl pt_Ts tables_1 pt_cn (pt_cn 7) 99 mi_BP_siteOf 0 := Or.inl ⟨rfl, ok_mi_BP_siteOf, Or.inr ⟨"BuriedPairs", pt_n_ok (i := 492) (by decide +kernel)⟩, wa_mi_BP_siteOf⟩
set_option maxRecDepth 100000 in
theorem lk_7_102 : pm_OM pt_cl pt_Ts tables_1 pt_cn (pt_cn 7) 102 mi_Layout_join 1 := Or.inr (Or.inl ⟨rfl, ok_mi_Layout_join, Or.inl (pt_w_ok (i := 495) (by decide +kernel)), wa_mi_Layout_join, wb_mi_Layout_join, _, _, rfl⟩)
set_option maxRecDepth 100000 in
theorem lk_7_108 : pm_OM pt_cl pt_Ts tables_1 pt_cn (pt_cn 7) 108 mi_Layout_hang 1 := Or.inr (Or.inl ⟨rfl, ok_mi_Layout_hang, Or.inl (pt_w_ok (i := 505) (by decide +kernel)), wa_mi_Layout_hang, wb_mi_Layout_hang, _, _, rfl⟩)
set_option maxRecDepth 100000 in
theorem lk_7_111 : pm_OM pt_cl pt_Ts tables_1 pt_cn (pt_cn 7) 111 mi_Reader_digitAt 1 := Or.inr (Or.inl ⟨rfl, ok_mi_Reader_digitAt, Or.inl (pt_w_ok (i := 428) (by decide +kernel)), wa_mi_Reader_digitAt, wb_mi_Reader_digitAt, _, _, rfl⟩)
set_option maxRecDepth 100000 in
theorem lk_8_3 : pm_OM pt_cl pt_Ts tables_1 pt_cn (pt_cn 8) 3 mi_Arr_fill 3 := Or.inr (Or.inr (Or.inr (Or.inl ⟨rfl, pt_w_ok (i := 269) (by decide +kernel), pt_w_ok (i := 28) (by decide +kernel), pt_w_ok (i := 29) (by decide +kernel)⟩)))
set_option maxRecDepth 100000 in
theorem lk_8_28 : pm_OM pt_cl pt_Ts tables_1 pt_cn (pt_cn 8) 28 mi_Arr_fill 0 := Or.inl ⟨rfl, ok_mi_Arr_fill, Or.inl (pt_w_ok (i := 647) (by decide +kernel)), wa_mi_Arr_fill⟩
set_option maxRecDepth 100000 in
theorem lk_8_34 : pm_OM pt_cl pt_Ts tables_1 pt_cn (pt_cn 8) 34 mi_Wires_wireAt 1 := Or.inr (Or.inl ⟨rfl, ok_mi_Wires_wireAt, Or.inl (pt_w_ok (i := 648) (by decide +kernel)), wa_mi_Wires_wireAt, wb_mi_Wires_wireAt, _, _, rfl⟩)
set_option maxRecDepth 100000 in
theorem lk_8_40 : pm_OM pt_cl pt_Ts tables_1 pt_cn (pt_cn 8) 40 mi_Wires_pieceAtEnd 1 := Or.inr (Or.inl ⟨rfl, ok_mi_Wires_pieceAtEnd, Or.inl (pt_w_ok (i := 652) (by decide +kernel)), wa_mi_Wires_pieceAtEnd, wb_mi_Wires_pieceAtEnd, _, _, rfl⟩)
set_option maxRecDepth 100000 in
theorem lk_8_43 : pm_OM pt_cl pt_Ts tables_1 pt_cn (pt_cn 8) 43 mi_Tone_come 1 := Or.inr (Or.inl ⟨rfl, ok_mi_Tone_come, Or.inl (pt_w_ok (i := 656) (by decide +kernel)), wa_mi_Tone_come, wb_mi_Tone_come, _, _, rfl⟩)
set_option maxRecDepth 100000 in
theorem lk_8_47 : pm_OM pt_cl pt_Ts tables_1 pt_cn (pt_cn 8) 47 mi_BP_valueAt 0 := Or.inl ⟨rfl, ok_mi_BP_valueAt, Or.inr ⟨"BuriedPairs", pt_n_ok (i := 660) (by decide +kernel)⟩, wa_mi_BP_valueAt⟩
set_option maxRecDepth 100000 in
theorem lk_8_51 : pm_OM pt_cl pt_Ts tables_1 pt_cn (pt_cn 8) 51 mi_Tone_goAlong 1 := Or.inr (Or.inl ⟨rfl, ok_mi_Tone_goAlong, Or.inl (pt_w_ok (i := 662) (by decide +kernel)), wa_mi_Tone_goAlong, wb_mi_Tone_goAlong, _, _, rfl⟩)
set_option maxRecDepth 100000 in
theorem lk_8_55 : pm_OM pt_cl pt_Ts tables_1 pt_cn (pt_cn 8) 55 mi_Tone_goAcross 1 := Or.inr (Or.inl ⟨rfl, ok_mi_Tone_goAcross, Or.inl (pt_w_ok (i := 680) (by decide +kernel)), wa_mi_Tone_goAcross, wb_mi_Tone_goAcross, _, _, rfl⟩)
set_option maxRecDepth 100000 in
theorem lk_8_58 : pm_OM pt_cl pt_Ts tables_1 pt_cn (pt_cn 8) 58 mi_BP_setAt 0 := Or.inl ⟨rfl, ok_mi_BP_setAt, Or.inr ⟨"BuriedPairs", pt_n_ok (i := 661) (by decide +kernel)⟩, wa_mi_BP_setAt⟩
set_option maxRecDepth 100000 in
theorem lk_8_62 : pm_OM pt_cl pt_Ts tables_1 pt_cn (pt_cn 8) 62 mi_BP_cableOf 0 := Or.inl ⟨rfl, ok_mi_BP_cableOf, Or.inr ⟨"BuriedPairs", pt_n_ok (i := 666) (by decide +kernel)⟩, wa_mi_BP_cableOf⟩
set_option maxRecDepth 100000 in
theorem lk_8_66 : pm_OM pt_cl pt_Ts tables_1 pt_cn (pt_cn 8) 66 mi_Tone_comesTo 1 := Or.inr (Or.inl ⟨rfl, ok_mi_Tone_comesTo, Or.inl (pt_w_ok (i := 669) (by decide +kernel)), wa_mi_Tone_comesTo, wb_mi_Tone_comesTo, _, _, rfl⟩)
set_option maxRecDepth 100000 in
theorem lk_8_69 : pm_OM pt_cl pt_Ts tables_1 pt_cn (pt_cn 8) 69 mi_BP_pairOf 0 := Or.inl ⟨rfl, ok_mi_BP_pairOf, Or.inr ⟨"BuriedPairs", pt_n_ok (i := 673) (by decide +kernel)⟩, wa_mi_BP_pairOf⟩
set_option maxRecDepth 100000 in
theorem lk_8_72 : pm_OM pt_cl pt_Ts tables_1 pt_cn (pt_cn 8) 72 mi_Wires_wireBehind 1 := Or.inr (Or.inl ⟨rfl, ok_mi_Wires_wireBehind, Or.inl (pt_w_ok (i := 676) (by decide +kernel)), wa_mi_Wires_wireBehind, wb_mi_Wires_wireBehind, _, _, rfl⟩)
set_option maxRecDepth 100000 in
theorem lk_8_90 : pm_OM pt_cl pt_Ts tables_1 pt_cn (pt_cn 8) 90 mi_Wires_pieceAt 1 := Or.inr (Or.inl ⟨rfl, ok_mi_Wires_pieceAt, Or.inl (pt_w_ok (i := 684) (by decide +kernel)), wa_mi_Wires_pieceAt, wb_mi_Wires_pieceAt, _, _, rfl⟩)
set_option maxRecDepth 100000 in
theorem lk_8_99 : pm_OM pt_cl pt_Ts tables_1 pt_cn (pt_cn 8) 99 mi_Ledger_size 1 := Or.inr (Or.inl ⟨rfl, ok_mi_Ledger_size, Or.inl (pt_w_ok (i := 734) (by decide +kernel)), wa_mi_Ledger_size, wb_mi_Ledger_size, _, _, rfl⟩)
set_option maxRecDepth 100000 in
theorem lk_8_105 : pm_OM pt_cl pt_Ts tables_1 pt_cn (pt_cn 8) 105 mi_Plan_boxAt 1 := Or.inr (Or.inl ⟨rfl, ok_mi_Plan_boxAt, Or.inl (pt_w_ok (i := 735) (by decide +kernel)), wa_mi_Plan_boxAt, wb_mi_Plan_boxAt, _, _, rfl⟩)
set_option maxRecDepth 100000 in
theorem lk_9_3 : pm_OM pt_cl pt_Ts tables_1 pt_cn (pt_cn 9) 3 mi_Arr_fill 3 := Or.inr (Or.inr (Or.inr (Or.inl ⟨rfl, pt_w_ok (i := 73) (by decide +kernel), pt_w_ok (i := 28) (by decide +kernel), pt_w_ok (i := 29) (by decide +kernel)⟩)))
set_option maxRecDepth 100000 in
theorem lk_9_11 : pm_OM pt_cl pt_Ts tables_1 pt_cn (pt_cn 9) 11 mi_Layout_init 2 := Or.inr (Or.inr (Or.inl ⟨rfl, ok_mi_Layout_init, Or.inl (pt_w_ok (i := 76) (by decide +kernel)), wa_mi_Layout_init, rfl, rfl⟩))
set_option maxRecDepth 100000 in
theorem lk_9_45 : pm_OM pt_cl pt_Ts tables_1 pt_cn (pt_cn 9) 45 mi_Plan_init 2 := Or.inr (Or.inr (Or.inl ⟨rfl, ok_mi_Plan_init, Or.inl (pt_w_ok (i := 105) (by decide +kernel)), wa_mi_Plan_init, rfl, rfl⟩))
set_option maxRecDepth 100000 in
theorem lk_9_60 : pm_OM pt_cl pt_Ts tables_1 pt_cn (pt_cn 9) 60 mi_Arr_fill 0 := Or.inl ⟨rfl, ok_mi_Arr_fill, Or.inl (pt_w_ok (i := 615) (by decide +kernel)), wa_mi_Arr_fill⟩
set_option maxRecDepth 100000 in
theorem lk_9_70 : pm_OM pt_cl pt_Ts tables_1 pt_cn (pt_cn 9) 70 mi_Ledger_size 1 := Or.inr (Or.inl ⟨rfl, ok_mi_Ledger_size, Or.inl (pt_w_ok (i := 616) (by decide +kernel)), wa_mi_Ledger_size, wb_mi_Ledger_size, _, _, rfl⟩)
set_option maxRecDepth 100000 in
theorem lk_9_76 : pm_OM pt_cl pt_Ts tables_1 pt_cn (pt_cn 9) 76 mi_Wires_befall 1 := Or.inr (Or.inl ⟨rfl, ok_mi_Wires_befall, Or.inl (pt_w_ok (i := 617) (by decide +kernel)), wa_mi_Wires_befall, wb_mi_Wires_befall, _, _, rfl⟩)
set_option maxRecDepth 100000 in
theorem lk_9_83 : pm_OM pt_cl pt_Ts tables_1 pt_cn (pt_cn 9) 83 mi_Wires_layoutWithout 1 := Or.inr (Or.inl ⟨rfl, ok_mi_Wires_layoutWithout, Or.inl (pt_w_ok (i := 637) (by decide +kernel)), wa_mi_Wires_layoutWithout, wb_mi_Wires_layoutWithout, _, _, rfl⟩)
set_option maxRecDepth 100000 in
theorem lk_9_87 : pm_OM pt_cl pt_Ts tables_1 pt_cn (pt_cn 9) 87 mi_Ledger_at 1 := Or.inr (Or.inl ⟨rfl, ok_mi_Ledger_at, Or.inl (pt_w_ok (i := 621) (by decide +kernel)), wa_mi_Ledger_at, wb_mi_Ledger_at, _, _, rfl⟩)
set_option maxRecDepth 100000 in
theorem lk_9_91 : pm_OM pt_cl pt_Ts tables_1 pt_cn (pt_cn 9) 91 mi_BP_siteOf 0 := Or.inl ⟨rfl, ok_mi_BP_siteOf, Or.inr ⟨"BuriedPairs", pt_n_ok (i := 622) (by decide +kernel)⟩, wa_mi_BP_siteOf⟩
set_option maxRecDepth 100000 in
theorem lk_9_94 : pm_OM pt_cl pt_Ts tables_1 pt_cn (pt_cn 9) 94 mi_Wires_cross 1 := Or.inr (Or.inl ⟨rfl, ok_mi_Wires_cross, Or.inl (pt_w_ok (i := 623) (by decide +kernel)), wa_mi_Wires_cross, wb_mi_Wires_cross, _, _, rfl⟩)
set_option maxRecDepth 100000 in
theorem lk_9_98 : pm_OM pt_cl pt_Ts tables_1 pt_cn (pt_cn 9) 98 mi_Wires_cut 1 := Or.inr (Or.inl ⟨rfl, ok_mi_Wires_cut, Or.inl (pt_w_ok (i := 629) (by decide +kernel)), wa_mi_Wires_cut, wb_mi_Wires_cut, _, _, rfl⟩)
set_option maxRecDepth 100000 in
theorem lk_9_101 : pm_OM pt_cl pt_Ts tables_1 pt_cn (pt_cn 9) 101 mi_Wires_bringTogether 1 := Or.inr (Or.inl ⟨rfl, ok_mi_Wires_bringTogether, Or.inl (pt_w_ok (i := 633) (by decide +kernel)), wa_mi_Wires_bringTogether, wb_mi_Wires_bringTogether, _, _, rfl⟩)
set_option maxRecDepth 100000 in
theorem lk_9_108 : pm_OM pt_cl pt_Ts tables_1 pt_cn (pt_cn 9) 108 mi_Layout_copy 1 := Or.inr (Or.inl ⟨rfl, ok_mi_Layout_copy, Or.inl (pt_w_ok (i := 641) (by decide +kernel)), wa_mi_Layout_copy, wb_mi_Layout_copy, _, _, rfl⟩)
set_option maxRecDepth 100000 in
theorem lk_9_115 : pm_OM pt_cl pt_Ts tables_1 pt_cn (pt_cn 9) 115 mi_Layout_work 1 := Or.inr (Or.inl ⟨rfl, ok_mi_Layout_work, Or.inl (pt_w_ok (i := 642) (by decide +kernel)), wa_mi_Layout_work, wb_mi_Layout_work, _, _, rfl⟩)
set_option maxRecDepth 100000 in
theorem lk_9_118 : pm_OM pt_cl pt_Ts tables_1 pt_cn (pt_cn 9) 118 mi_BP_valueAt 0 := Or.inl ⟨rfl, ok_mi_BP_valueAt, Or.inr ⟨"BuriedPairs", pt_n_ok (i := 627) (by decide +kernel)⟩, wa_mi_BP_valueAt⟩
set_option maxRecDepth 100000 in
theorem lk_9_122 : pm_OM pt_cl pt_Ts tables_1 pt_cn (pt_cn 9) 122 mi_BP_setAt 0 := Or.inl ⟨rfl, ok_mi_BP_setAt, Or.inr ⟨"BuriedPairs", pt_n_ok (i := 628) (by decide +kernel)⟩, wa_mi_BP_setAt⟩
set_option maxRecDepth 100000 in
theorem lk_9_132 : pm_OM pt_cl pt_Ts tables_1 pt_cn (pt_cn 9) 132 mi_Wires_pairsWith 1 := Or.inr (Or.inl ⟨rfl, ok_mi_Wires_pairsWith, Or.inl (pt_w_ok (i := 783) (by decide +kernel)), wa_mi_Wires_pairsWith, wb_mi_Wires_pairsWith, _, _, rfl⟩)
set_option maxRecDepth 100000 in
theorem lk_9_138 : pm_OM pt_cl pt_Ts tables_1 pt_cn (pt_cn 9) 138 mi_Plan_pairsOf 1 := Or.inr (Or.inl ⟨rfl, ok_mi_Plan_pairsOf, Or.inl (pt_w_ok (i := 787) (by decide +kernel)), wa_mi_Plan_pairsOf, wb_mi_Plan_pairsOf, _, _, rfl⟩)
set_option maxRecDepth 100000 in
theorem lk_9_142 : pm_OM pt_cl pt_Ts tables_1 pt_cn (pt_cn 9) 142 mi_Wires_wireAt 1 := Or.inr (Or.inl ⟨rfl, ok_mi_Wires_wireAt, Or.inl (pt_w_ok (i := 697) (by decide +kernel)), wa_mi_Wires_wireAt, wb_mi_Wires_wireAt, _, _, rfl⟩)
set_option maxRecDepth 100000 in
theorem lk_9_145 : pm_OM pt_cl pt_Ts tables_1 pt_cn (pt_cn 9) 145 mi_BP_cableOf 0 := Or.inl ⟨rfl, ok_mi_BP_cableOf, Or.inr ⟨"BuriedPairs", pt_n_ok (i := 698) (by decide +kernel)⟩, wa_mi_BP_cableOf⟩
set_option maxRecDepth 100000 in
theorem lk_9_148 : pm_OM pt_cl pt_Ts tables_1 pt_cn (pt_cn 9) 148 mi_Plan_lengthOf 1 := Or.inr (Or.inl ⟨rfl, ok_mi_Plan_lengthOf, Or.inl (pt_w_ok (i := 699) (by decide +kernel)), wa_mi_Plan_lengthOf, wb_mi_Plan_lengthOf, _, _, rfl⟩)
set_option maxRecDepth 100000 in
theorem lk_9_151 : pm_OM pt_cl pt_Ts tables_1 pt_cn (pt_cn 9) 151 mi_Wires_toFirstTouch 1 := Or.inr (Or.inl ⟨rfl, ok_mi_Wires_toFirstTouch, Or.inl (pt_w_ok (i := 700) (by decide +kernel)), wa_mi_Wires_toFirstTouch, wb_mi_Wires_toFirstTouch, _, _, rfl⟩)
set_option maxRecDepth 100000 in
theorem lk_9_155 : pm_OM pt_cl pt_Ts tables_1 pt_cn (pt_cn 9) 155 mi_Wires_toFirstBreak 1 := Or.inr (Or.inl ⟨rfl, ok_mi_Wires_toFirstBreak, Or.inl (pt_w_ok (i := 707) (by decide +kernel)), wa_mi_Wires_toFirstBreak, wb_mi_Wires_toFirstBreak, _, _, rfl⟩)
set_option maxRecDepth 100000 in
theorem lk_9_158 : pm_OM pt_cl pt_Ts tables_1 pt_cn (pt_cn 9) 158 mi_Wires_wireBehind 1 := Or.inr (Or.inl ⟨rfl, ok_mi_Wires_wireBehind, Or.inl (pt_w_ok (i := 711) (by decide +kernel)), wa_mi_Wires_wireBehind, wb_mi_Wires_wireBehind, _, _, rfl⟩)
set_option maxRecDepth 100000 in
theorem lk_9_161 : pm_OM pt_cl pt_Ts tables_1 pt_cn (pt_cn 9) 161 mi_Wires_hangsBehind 1 := Or.inr (Or.inl ⟨rfl, ok_mi_Wires_hangsBehind, Or.inl (pt_w_ok (i := 712) (by decide +kernel)), wa_mi_Wires_hangsBehind, wb_mi_Wires_hangsBehind, _, _, rfl⟩)
set_option maxRecDepth 100000 in
theorem lk_9_168 : pm_OM pt_cl pt_Ts tables_1 pt_cn (pt_cn 9) 168 mi_Wires_nearer 0 := Or.inl ⟨rfl, ok_mi_Wires_nearer, Or.inl (pt_w_ok (i := 704) (by decide +kernel)), wa_mi_Wires_nearer⟩
set_option maxRecDepth 100000 in
theorem lk_10_3 : pm_OM pt_cl pt_Ts tables_1 pt_cn (pt_cn 10) 3 mi_Arr_fill 3 := Or.inr (Or.inr (Or.inr (Or.inl ⟨rfl, pt_w_ok (i := 27) (by decide +kernel), pt_w_ok (i := 28) (by decide +kernel), pt_w_ok (i := 29) (by decide +kernel)⟩)))
set_option maxRecDepth 100000 in
theorem lk_10_11 : pm_OM pt_cl pt_Ts tables_1 pt_cn (pt_cn 10) 11 mi_Tape_init 2 := Or.inr (Or.inr (Or.inl ⟨rfl, ok_mi_Tape_init, Or.inl (pt_w_ok (i := 32) (by decide +kernel)), wa_mi_Tape_init, rfl, rfl⟩))
set_option maxRecDepth 100000 in
theorem lk_10_18 : pm_OM pt_cl pt_Ts tables_1 pt_cn (pt_cn 10) 18 mi_Reader_init 2 := Or.inr (Or.inr (Or.inl ⟨rfl, ok_mi_Reader_init, Or.inl (pt_w_ok (i := 46) (by decide +kernel)), wa_mi_Reader_init, rfl, rfl⟩))
set_option maxRecDepth 100000 in
theorem lk_10_33 : pm_OM pt_cl pt_Ts tables_1 pt_cn (pt_cn 10) 33 mi_Bench_init 2 := Or.inr (Or.inr (Or.inl ⟨rfl, ok_mi_Bench_init, Or.inl (pt_w_ok (i := 64) (by decide +kernel)), wa_mi_Bench_init, rfl, rfl⟩))
set_option maxRecDepth 100000 in
theorem lk_10_40 : pm_OM pt_cl pt_Ts tables_1 pt_cn (pt_cn 10) 40 mi_Mover_init 2 := Or.inr (Or.inr (Or.inl ⟨rfl, ok_mi_Mover_init, Or.inl (pt_w_ok (i := 312) (by decide +kernel)), wa_mi_Mover_init, rfl, rfl⟩))
set_option maxRecDepth 100000 in
theorem lk_10_45 : pm_OM pt_cl pt_Ts tables_1 pt_cn (pt_cn 10) 45 mi_Plan_init 2 := Or.inr (Or.inr (Or.inl ⟨rfl, ok_mi_Plan_init, Or.inl (pt_w_ok (i := 336) (by decide +kernel)), wa_mi_Plan_init, rfl, rfl⟩))
set_option maxRecDepth 100000 in
theorem lk_10_54 : pm_OM pt_cl pt_Ts tables_1 pt_cn (pt_cn 10) 54 mi_BP_bytesIn 0 := Or.inl ⟨rfl, ok_mi_BP_bytesIn, Or.inl (pt_w_ok (i := 363) (by decide +kernel)), wa_mi_BP_bytesIn⟩
set_option maxRecDepth 100000 in
theorem lk_10_58 : pm_OM pt_cl pt_Ts tables_1 pt_cn (pt_cn 10) 58 mi_Tape_size 1 := Or.inr (Or.inl ⟨rfl, ok_mi_Tape_size, Or.inl (pt_w_ok (i := 366) (by decide +kernel)), wa_mi_Tape_size, wb_mi_Tape_size, _, _, rfl⟩)
set_option maxRecDepth 100000 in
theorem lk_10_62 : pm_OM pt_cl pt_Ts tables_1 pt_cn (pt_cn 10) 62 mi_Tape_take 1 := Or.inr (Or.inl ⟨rfl, ok_mi_Tape_take, Or.inl (pt_w_ok (i := 370) (by decide +kernel)), wa_mi_Tape_take, wb_mi_Tape_take, _, _, rfl⟩)
set_option maxRecDepth 100000 in
theorem lk_10_66 : pm_OM pt_cl pt_Ts tables_1 pt_cn (pt_cn 10) 66 mi_Tape_cutTo 1 := Or.inr (Or.inl ⟨rfl, ok_mi_Tape_cutTo, Or.inl (pt_w_ok (i := 381) (by decide +kernel)), wa_mi_Tape_cutTo, wb_mi_Tape_cutTo, _, _, rfl⟩)
set_option maxRecDepth 100000 in
theorem lk_10_70 : pm_OM pt_cl pt_Ts tables_1 pt_cn (pt_cn 10) 70 mi_Reader_readInto 1 := Or.inr (Or.inl ⟨rfl, ok_mi_Reader_readInto, Or.inl (pt_w_ok (i := 389) (by decide +kernel)), wa_mi_Reader_readInto, wb_mi_Reader_readInto, _, _, rfl⟩)
set_option maxRecDepth 100000 in
theorem lk_10_74 : pm_OM pt_cl pt_Ts tables_1 pt_cn (pt_cn 10) 74 mi_BP_planAt 1 := Or.inr (Or.inl ⟨rfl, ok_mi_BP_planAt, Or.inl (pt_w_ok (i := 530) (by decide +kernel)), wa_mi_BP_planAt, wb_mi_BP_planAt, _, _, rfl⟩)
set_option maxRecDepth 100000 in
theorem lk_10_78 : pm_OM pt_cl pt_Ts tables_1 pt_cn (pt_cn 10) 78 mi_Plan_hasCable 1 := Or.inr (Or.inl ⟨rfl, ok_mi_Plan_hasCable, Or.inl (pt_w_ok (i := 607) (by decide +kernel)), wa_mi_Plan_hasCable, wb_mi_Plan_hasCable, _, _, rfl⟩)
set_option maxRecDepth 100000 in
theorem lk_10_88 : pm_OM pt_cl pt_Ts tables_1 pt_cn (pt_cn 10) 88 mi_Ledger_at 1 := Or.inr (Or.inl ⟨rfl, ok_mi_Ledger_at, Or.inl (pt_w_ok (i := 1102) (by decide +kernel)), wa_mi_Ledger_at, wb_mi_Ledger_at, _, _, rfl⟩)
set_option maxRecDepth 100000 in
theorem lk_10_94 : pm_OM pt_cl pt_Ts tables_1 pt_cn (pt_cn 10) 94 mi_Plan_hasPair 1 := Or.inr (Or.inl ⟨rfl, ok_mi_Plan_hasPair, Or.inl (pt_w_ok (i := 534) (by decide +kernel)), wa_mi_Plan_hasPair, wb_mi_Plan_hasPair, _, _, rfl⟩)
set_option maxRecDepth 100000 in
theorem lk_10_108 : pm_OM pt_cl pt_Ts tables_1 pt_cn (pt_cn 10) 108 mi_BP_siteOf 0 := Or.inl ⟨rfl, ok_mi_BP_siteOf, Or.inl (pt_w_ok (i := 538) (by decide +kernel)), wa_mi_BP_siteOf⟩
set_option maxRecDepth 100000 in
theorem lk_10_111 : pm_OM pt_cl pt_Ts tables_1 pt_cn (pt_cn 10) 111 mi_BP_valueAt 0 := Or.inl ⟨rfl, ok_mi_BP_valueAt, Or.inl (pt_w_ok (i := 539) (by decide +kernel)), wa_mi_BP_valueAt⟩
set_option maxRecDepth 100000 in
theorem lk_10_118 : pm_OM pt_cl pt_Ts tables_1 pt_cn (pt_cn 10) 118 mi_Plan_meet 1 := Or.inr (Or.inl ⟨rfl, ok_mi_Plan_meet, Or.inl (pt_w_ok (i := 548) (by decide +kernel)), wa_mi_Plan_meet, wb_mi_Plan_meet, _, _, rfl⟩)
set_option maxRecDepth 100000 in
theorem lk_10_121 : pm_OM pt_cl pt_Ts tables_1 pt_cn (pt_cn 10) 121 mi_BP_isHouse 0 := Or.inl ⟨rfl, ok_mi_BP_isHouse, Or.inl (pt_w_ok (i := 549) (by decide +kernel)), wa_mi_BP_isHouse⟩
set_option maxRecDepth 100000 in
theorem lk_10_124 : pm_OM pt_cl pt_Ts tables_1 pt_cn (pt_cn 10) 124 mi_Plan_addSlip 1 := Or.inr (Or.inl ⟨rfl, ok_mi_Plan_addSlip, Or.inl (pt_w_ok (i := 552) (by decide +kernel)), wa_mi_Plan_addSlip, wb_mi_Plan_addSlip, _, _, rfl⟩)
set_option maxRecDepth 100000 in
theorem lk_10_128 : pm_OM pt_cl pt_Ts tables_1 pt_cn (pt_cn 10) 128 mi_Plan_canHaveTrouble 1 := Or.inr (Or.inl ⟨rfl, ok_mi_Plan_canHaveTrouble, Or.inl (pt_w_ok (i := 570) (by decide +kernel)), wa_mi_Plan_canHaveTrouble, wb_mi_Plan_canHaveTrouble, _, _, rfl⟩)
set_option maxRecDepth 100000 in
theorem lk_10_132 : pm_OM pt_cl pt_Ts tables_1 pt_cn (pt_cn 10) 132 mi_Plan_addTrouble 1 := Or.inr (Or.inl ⟨rfl, ok_mi_Plan_addTrouble, Or.inl (pt_w_ok (i := 579) (by decide +kernel)), wa_mi_Plan_addTrouble, wb_mi_Plan_addTrouble, _, _, rfl⟩)
set_option maxRecDepth 100000 in
theorem lk_10_139 : pm_OM pt_cl pt_Ts tables_1 pt_cn (pt_cn 10) 139 mi_Ledger_size 1 := Or.inr (Or.inl ⟨rfl, ok_mi_Ledger_size, Or.inl (pt_w_ok (i := 587) (by decide +kernel)), wa_mi_Ledger_size, wb_mi_Ledger_size, _, _, rfl⟩)
set_option maxRecDepth 100000 in
theorem lk_10_140 : pm_OM pt_cl pt_Ts tables_1 pt_cn (pt_cn 10) 140 mi_BP_planWith 1 := Or.inr (Or.inl ⟨rfl, ok_mi_BP_planWith, Or.inl (pt_w_ok (i := 592) (by decide +kernel)), wa_mi_BP_planWith, wb_mi_BP_planWith, _, _, rfl⟩)
set_option maxRecDepth 100000 in
theorem lk_10_144 : pm_OM pt_cl pt_Ts tables_1 pt_cn (pt_cn 10) 144 mi_BP_isEnd 0 := Or.inl ⟨rfl, ok_mi_BP_isEnd, Or.inl (pt_w_ok (i := 604) (by decide +kernel)), wa_mi_BP_isEnd⟩
set_option maxRecDepth 100000 in
theorem lk_10_151 : pm_OM pt_cl pt_Ts tables_1 pt_cn (pt_cn 10) 151 mi_Wires_lay 1 := Or.inr (Or.inl ⟨rfl, ok_mi_Wires_lay, Or.inl (pt_w_ok (i := 611) (by decide +kernel)), wa_mi_Wires_lay, wb_mi_Wires_lay, _, _, rfl⟩)
set_option maxRecDepth 100000 in
theorem lk_10_161 : pm_OM pt_cl pt_Ts tables_1 pt_cn (pt_cn 10) 161 mi_Tone_send 1 := Or.inr (Or.inl ⟨rfl, ok_mi_Tone_send, Or.inl (pt_w_ok (i := 643) (by decide +kernel)), wa_mi_Tone_send, wb_mi_Tone_send, _, _, rfl⟩)
set_option maxRecDepth 100000 in
theorem lk_10_167 : pm_OM pt_cl pt_Ts tables_1 pt_cn (pt_cn 10) 167 mi_Tone_comesTo 1 := Or.inr (Or.inl ⟨rfl, ok_mi_Tone_comesTo, Or.inl (pt_w_ok (i := 688) (by decide +kernel)), wa_mi_Tone_comesTo, wb_mi_Tone_comesTo, _, _, rfl⟩)
set_option maxRecDepth 100000 in
theorem lk_10_170 : pm_OM pt_cl pt_Ts tables_1 pt_cn (pt_cn 10) 170 mi_Wires_measure 1 := Or.inr (Or.inl ⟨rfl, ok_mi_Wires_measure, Or.inl (pt_w_ok (i := 693) (by decide +kernel)), wa_mi_Wires_measure, wb_mi_Wires_measure, _, _, rfl⟩)
set_option maxRecDepth 100000 in
theorem lk_10_176 : pm_OM pt_cl pt_Ts tables_1 pt_cn (pt_cn 10) 176 mi_Wires_homeOf 1 := Or.inr (Or.inl ⟨rfl, ok_mi_Wires_homeOf, Or.inl (pt_w_ok (i := 721) (by decide +kernel)), wa_mi_Wires_homeOf, wb_mi_Wires_homeOf, _, _, rfl⟩)
set_option maxRecDepth 100000 in
theorem lk_10_179 : pm_OM pt_cl pt_Ts tables_1 pt_cn (pt_cn 10) 179 mi_Bench_feedersOf 1 := Or.inr (Or.inl ⟨rfl, ok_mi_Bench_feedersOf, Or.inl (pt_w_ok (i := 725) (by decide +kernel)), wa_mi_Bench_feedersOf, wb_mi_Bench_feedersOf, _, _, rfl⟩)
set_option maxRecDepth 100000 in
theorem lk_10_183 : pm_OM pt_cl pt_Ts tables_1 pt_cn (pt_cn 10) 183 mi_Bench_servedHouses 1 := Or.inr (Or.inl ⟨rfl, ok_mi_Bench_servedHouses, Or.inl (pt_w_ok (i := 740) (by decide +kernel)), wa_mi_Bench_servedHouses, wb_mi_Bench_servedHouses, _, _, rfl⟩)
set_option maxRecDepth 100000 in
theorem lk_10_187 : pm_OM pt_cl pt_Ts tables_1 pt_cn (pt_cn 10) 187 mi_Bench_housesHearing 1 := Or.inr (Or.inl ⟨rfl, ok_mi_Bench_housesHearing, Or.inl (pt_w_ok (i := 760) (by decide +kernel)), wa_mi_Bench_housesHearing, wb_mi_Bench_housesHearing, _, _, rfl⟩)
set_option maxRecDepth 100000 in
theorem lk_10_191 : pm_OM pt_cl pt_Ts tables_1 pt_cn (pt_cn 10) 191 mi_Plan_cableTo 1 := Or.inr (Or.inl ⟨rfl, ok_mi_Plan_cableTo, Or.inl (pt_w_ok (i := 772) (by decide +kernel)), wa_mi_Plan_cableTo, wb_mi_Plan_cableTo, _, _, rfl⟩)
set_option maxRecDepth 100000 in
theorem lk_10_194 : pm_OM pt_cl pt_Ts tables_1 pt_cn (pt_cn 10) 194 mi_Bench_openPairs 1 := Or.inr (Or.inl ⟨rfl, ok_mi_Bench_openPairs, Or.inl (pt_w_ok (i := 773) (by decide +kernel)), wa_mi_Bench_openPairs, wb_mi_Bench_openPairs, _, _, rfl⟩)
set_option maxRecDepth 100000 in
theorem lk_10_197 : pm_OM pt_cl pt_Ts tables_1 pt_cn (pt_cn 10) 197 mi_Wires_hungPairs 1 := Or.inr (Or.inl ⟨rfl, ok_mi_Wires_hungPairs, Or.inl (pt_w_ok (i := 788) (by decide +kernel)), wa_mi_Wires_hungPairs, wb_mi_Wires_hungPairs, _, _, rfl⟩)
set_option maxRecDepth 100000 in
theorem lk_10_203 : pm_OM pt_cl pt_Ts tables_1 pt_cn (pt_cn 10) 203 mi_Ledger_add 1 := Or.inr (Or.inl ⟨rfl, ok_mi_Ledger_add, Or.inl (pt_w_ok (i := 796) (by decide +kernel)), wa_mi_Ledger_add, wb_mi_Ledger_add, _, _, rfl⟩)
set_option maxRecDepth 100000 in
theorem lk_10_206 : pm_OM pt_cl pt_Ts tables_1 pt_cn (pt_cn 10) 206 mi_Ledger_has 1 := Or.inr (Or.inl ⟨rfl, ok_mi_Ledger_has, Or.inl (pt_w_ok (i := 801) (by decide +kernel)), wa_mi_Ledger_has, wb_mi_Ledger_has, _, _, rfl⟩)
set_option maxRecDepth 100000 in
theorem lk_10_209 : pm_OM pt_cl pt_Ts tables_1 pt_cn (pt_cn 10) 209 mi_Bench_tell 1 := Or.inr (Or.inl ⟨rfl, ok_mi_Bench_tell, Or.inl (pt_w_ok (i := 802) (by decide +kernel)), wa_mi_Bench_tell, wb_mi_Bench_tell, _, _, rfl⟩)
set_option maxRecDepth 100000 in
theorem lk_10_213 : pm_OM pt_cl pt_Ts tables_1 pt_cn (pt_cn 10) 213 mi_Plan_addReading 1 := Or.inr (Or.inl ⟨rfl, ok_mi_Plan_addReading, Or.inl (pt_w_ok (i := 813) (by decide +kernel)), wa_mi_Plan_addReading, wb_mi_Plan_addReading, _, _, rfl⟩)
set_option maxRecDepth 100000 in
theorem lk_10_217 : pm_OM pt_cl pt_Ts tables_1 pt_cn (pt_cn 10) 217 mi_Plan_dropReading 1 := Or.inr (Or.inl ⟨rfl, ok_mi_Plan_dropReading, Or.inl (pt_w_ok (i := 825) (by decide +kernel)), wa_mi_Plan_dropReading, wb_mi_Plan_dropReading, _, _, rfl⟩)
set_option maxRecDepth 100000 in
theorem lk_10_220 : pm_OM pt_cl pt_Ts tables_1 pt_cn (pt_cn 10) 220 mi_Bench_findFits 1 := Or.inr (Or.inl ⟨rfl, ok_mi_Bench_findFits, Or.inl (pt_w_ok (i := 833) (by decide +kernel)), wa_mi_Bench_findFits, wb_mi_Bench_findFits, _, _, rfl⟩)
set_option maxRecDepth 100000 in
theorem lk_10_233 : pm_OM pt_cl pt_Ts tables_1 pt_cn (pt_cn 10) 233 mi_Sheet_fitAt 1 := Or.inr (Or.inl ⟨rfl, ok_mi_Sheet_fitAt, Or.inl (pt_w_ok (i := 874) (by decide +kernel)), wa_mi_Sheet_fitAt, wb_mi_Sheet_fitAt, _, _, rfl⟩)
set_option maxRecDepth 100000 in
theorem lk_10_236 : pm_OM pt_cl pt_Ts tables_1 pt_cn (pt_cn 10) 236 mi_Sheet_smallest 1 := Or.inr (Or.inl ⟨rfl, ok_mi_Sheet_smallest, Or.inl (pt_w_ok (i := 882) (by decide +kernel)), wa_mi_Sheet_smallest, wb_mi_Sheet_smallest, _, _, rfl⟩)
set_option maxRecDepth 100000 in
theorem lk_10_239 : pm_OM pt_cl pt_Ts tables_1 pt_cn (pt_cn 10) 239 mi_Sheet_inAll 1 := Or.inr (Or.inl ⟨rfl, ok_mi_Sheet_inAll, Or.inl (pt_w_ok (i := 900) (by decide +kernel)), wa_mi_Sheet_inAll, wb_mi_Sheet_inAll, _, _, rfl⟩)
set_option maxRecDepth 100000 in
theorem lk_10_242 : pm_OM pt_cl pt_Ts tables_1 pt_cn (pt_cn 10) 242 mi_Sheet_inSome 1 := Or.inr (Or.inl ⟨rfl, ok_mi_Sheet_inSome, Or.inl (pt_w_ok (i := 904) (by decide +kernel)), wa_mi_Sheet_inSome, wb_mi_Sheet_inSome, _, _, rfl⟩)
set_option maxRecDepth 100000 in
theorem lk_10_245 : pm_OM pt_cl pt_Ts tables_1 pt_cn (pt_cn 10) 245 mi_Sheet_columnOf 0 := Or.inl ⟨rfl, ok_mi_Sheet_columnOf, Or.inl (pt_w_ok (i := 912) (by decide +kernel)), wa_mi_Sheet_columnOf⟩
set_option maxRecDepth 100000 in
theorem lk_10_248 : pm_OM pt_cl pt_Ts tables_1 pt_cn (pt_cn 10) 248 mi_Bench_fill 1 := Or.inr (Or.inl ⟨rfl, ok_mi_Bench_fill, Or.inl (pt_w_ok (i := 913) (by decide +kernel)), wa_mi_Bench_fill, wb_mi_Bench_fill, _, _, rfl⟩)
set_option maxRecDepth 100000 in
theorem lk_10_251 : pm_OM pt_cl pt_Ts tables_1 pt_cn (pt_cn 10) 251 mi_Bench_partFits 1 := Or.inr (Or.inl ⟨rfl, ok_mi_Bench_partFits, Or.inl (pt_w_ok (i := 914) (by decide +kernel)), wa_mi_Bench_partFits, wb_mi_Bench_partFits, _, _, rfl⟩)
set_option maxRecDepth 100000 in
theorem lk_10_261 : pm_OM pt_cl pt_Ts tables_1 pt_cn (pt_cn 10) 261 mi_Plan_hasBox 1 := Or.inr (Or.inl ⟨rfl, ok_mi_Plan_hasBox, Or.inl (pt_w_ok (i := 926) (by decide +kernel)), wa_mi_Plan_hasBox, wb_mi_Plan_hasBox, _, _, rfl⟩)
set_option maxRecDepth 100000 in
theorem lk_10_264 : pm_OM pt_cl pt_Ts tables_1 pt_cn (pt_cn 10) 264 mi_Bench_columnsOfAll 1 := Or.inr (Or.inl ⟨rfl, ok_mi_Bench_columnsOfAll, Or.inl (pt_w_ok (i := 927) (by decide +kernel)), wa_mi_Bench_columnsOfAll, wb_mi_Bench_columnsOfAll, _, _, rfl⟩)
set_option maxRecDepth 100000 in
theorem lk_10_268 : pm_OM pt_cl pt_Ts tables_1 pt_cn (pt_cn 10) 268 mi_Bench_bestTest 1 := Or.inr (Or.inl ⟨rfl, ok_mi_Bench_bestTest, Or.inl (pt_w_ok (i := 931) (by decide +kernel)), wa_mi_Bench_bestTest, wb_mi_Bench_bestTest, _, _, rfl⟩)
set_option maxRecDepth 100000 in
theorem lk_10_272 : pm_OM pt_cl pt_Ts tables_1 pt_cn (pt_cn 10) 272 mi_Plan_way 1 := Or.inr (Or.inl ⟨rfl, ok_mi_Plan_way, Or.inl (pt_w_ok (i := 953) (by decide +kernel)), wa_mi_Plan_way, wb_mi_Plan_way, _, _, rfl⟩)
set_option maxRecDepth 100000 in
theorem lk_10_275 : pm_OM pt_cl pt_Ts tables_1 pt_cn (pt_cn 10) 275 mi_Bench_breakAt 1 := Or.inr (Or.inl ⟨rfl, ok_mi_Bench_breakAt, Or.inl (pt_w_ok (i := 958) (by decide +kernel)), wa_mi_Bench_breakAt, wb_mi_Bench_breakAt, _, _, rfl⟩)
set_option maxRecDepth 100000 in
theorem lk_10_279 : pm_OM pt_cl pt_Ts tables_1 pt_cn (pt_cn 10) 279 mi_Plan_setWanted 1 := Or.inr (Or.inl ⟨rfl, ok_mi_Plan_setWanted, Or.inl (pt_w_ok (i := 976) (by decide +kernel)), wa_mi_Plan_setWanted, wb_mi_Plan_setWanted, _, _, rfl⟩)
set_option maxRecDepth 100000 in
theorem lk_10_282 : pm_OM pt_cl pt_Ts tables_1 pt_cn (pt_cn 10) 282 mi_Mover_work 1 := Or.inr (Or.inl ⟨rfl, ok_mi_Mover_work, Or.inl (pt_w_ok (i := 989) (by decide +kernel)), wa_mi_Mover_work, wb_mi_Mover_work, _, _, rfl⟩)
set_option maxRecDepth 100000 in
theorem lk_10_289 : pm_OM pt_cl pt_Ts tables_1 pt_cn (pt_cn 10) 289 mi_Mover_moveAt 1 := Or.inr (Or.inl ⟨rfl, ok_mi_Mover_moveAt, Or.inl (pt_w_ok (i := 1025) (by decide +kernel)), wa_mi_Mover_moveAt, wb_mi_Mover_moveAt, _, _, rfl⟩)
set_option maxRecDepth 100000 in
theorem lk_10_301 : pm_OM pt_cl pt_Ts tables_1 pt_cn (pt_cn 10) 301 mi_Plan_hasWorld 1 := Or.inr (Or.inl ⟨rfl, ok_mi_Plan_hasWorld, Or.inl (pt_w_ok (i := 596) (by decide +kernel)), wa_mi_Plan_hasWorld, wb_mi_Plan_hasWorld, _, _, rfl⟩)
set_option maxRecDepth 100000 in
theorem lk_11_3 : pm_OM pt_cl pt_Ts tables_1 pt_cn (pt_cn 11) 3 mi_Arr_fill 3 := Or.inr (Or.inr (Or.inr (Or.inl ⟨rfl, pt_w_ok (i := 1108) (by decide +kernel), pt_w_ok (i := 28) (by decide +kernel), pt_w_ok (i := 29) (by decide +kernel)⟩)))
set_option maxRecDepth 100000 in
theorem lk_11_149 : pm_OM pt_cl pt_Ts tables_1 pt_cn (pt_cn 11) 149 mi_M_bytesIn 0 := Or.inl ⟨rfl, ok_mi_M_bytesIn, Or.inl (pt_w_ok (i := 1294) (by decide +kernel)), wa_mi_M_bytesIn⟩
set_option maxRecDepth 100000 in
theorem lk_11_153 : pm_OM pt_cl pt_Ts tables_1 pt_cn (pt_cn 11) 153 mi_M_put 1 := Or.inr (Or.inl ⟨rfl, ok_mi_M_put, Or.inl (pt_w_ok (i := 1297) (by decide +kernel)), wa_mi_M_put, wb_mi_M_put, _, _, rfl⟩)
set_option maxRecDepth 100000 in
theorem lk_11_160 : pm_OM pt_cl pt_Ts tables_1 pt_cn (pt_cn 11) 160 mi_M_here 1 := Or.inr (Or.inl ⟨rfl, ok_mi_M_here, Or.inl (pt_w_ok (i := 1317) (by decide +kernel)), wa_mi_M_here, wb_mi_M_here, _, _, rfl⟩)
set_option maxRecDepth 100000 in
theorem lk_11_167 : pm_OM pt_cl pt_Ts tables_1 pt_cn (pt_cn 11) 167 mi_M_fails 1 := Or.inr (Or.inl ⟨rfl, ok_mi_M_fails, Or.inl (pt_w_ok (i := 1321) (by decide +kernel)), wa_mi_M_fails, wb_mi_M_fails, _, _, rfl⟩)
set_option maxRecDepth 100000 in
theorem lk_11_171 : pm_OM pt_cl pt_Ts tables_1 pt_cn (pt_cn 11) 171 mi_M_look 1 := Or.inr (Or.inl ⟨rfl, ok_mi_M_look, Or.inl (pt_w_ok (i := 1313) (by decide +kernel)), wa_mi_M_look, wb_mi_M_look, _, _, rfl⟩)
set_option maxRecDepth 100000 in
theorem lk_11_174 : pm_OM pt_cl pt_Ts tables_1 pt_cn (pt_cn 11) 174 mi_M_isDigit 1 := Or.inr (Or.inl ⟨rfl, ok_mi_M_isDigit, Or.inl (pt_w_ok (i := 1329) (by decide +kernel)), wa_mi_M_isDigit, wb_mi_M_isDigit, _, _, rfl⟩)
set_option maxRecDepth 100000 in
theorem lk_11_181 : pm_OM pt_cl pt_Ts tables_1 pt_cn (pt_cn 11) 181 mi_M_isIn 0 := Or.inl ⟨rfl, ok_mi_M_isIn, Or.inl (pt_w_ok (i := 1333) (by decide +kernel)), wa_mi_M_isIn⟩
set_option maxRecDepth 100000 in
theorem lk_11_185 : pm_OM pt_cl pt_Ts tables_1 pt_cn (pt_cn 11) 185 mi_M_comesTo 1 := Or.inr (Or.inl ⟨rfl, ok_mi_M_comesTo, Or.inl (pt_w_ok (i := 1336) (by decide +kernel)), wa_mi_M_comesTo, wb_mi_M_comesTo, _, _, rfl⟩)
set_option maxRecDepth 100000 in
theorem lk_11_189 : pm_OM pt_cl pt_Ts tables_1 pt_cn (pt_cn 11) 189 mi_M_number 1 := Or.inr (Or.inl ⟨rfl, ok_mi_M_number, Or.inl (pt_w_ok (i := 1325) (by decide +kernel)), wa_mi_M_number, wb_mi_M_number, _, _, rfl⟩)
set_option maxRecDepth 100000 in
theorem lk_11_192 : pm_OM pt_cl pt_Ts tables_1 pt_cn (pt_cn 11) 192 mi_M_tell 1 := Or.inr (Or.inl ⟨rfl, ok_mi_M_tell, Or.inl (pt_w_ok (i := 1348) (by decide +kernel)), wa_mi_M_tell, wb_mi_M_tell, _, _, rfl⟩)
set_option maxRecDepth 100000 in
theorem lk_11_199 : pm_OM pt_cl pt_Ts tables_1 pt_cn (pt_cn 11) 199 mi_M_readCable 1 := Or.inr (Or.inl ⟨rfl, ok_mi_M_readCable, Or.inl (pt_w_ok (i := 1340) (by decide +kernel)), wa_mi_M_readCable, wb_mi_M_readCable, _, _, rfl⟩)
set_option maxRecDepth 100000 in
theorem lk_11_202 : pm_OM pt_cl pt_Ts tables_1 pt_cn (pt_cn 11) 202 mi_M_readTold 1 := Or.inr (Or.inl ⟨rfl, ok_mi_M_readTold, Or.inl (pt_w_ok (i := 1344) (by decide +kernel)), wa_mi_M_readTold, wb_mi_M_readTold, _, _, rfl⟩)
set_option maxRecDepth 100000 in
theorem lk_11_205 : pm_OM pt_cl pt_Ts tables_1 pt_cn (pt_cn 11) 205 mi_M_readPlan 1 := Or.inr (Or.inl ⟨rfl, ok_mi_M_readPlan, Or.inl (pt_w_ok (i := 1309) (by decide +kernel)), wa_mi_M_readPlan, wb_mi_M_readPlan, _, _, rfl⟩)
set_option maxRecDepth 100000 in
theorem lk_11_208 : pm_OM pt_cl pt_Ts tables_1 pt_cn (pt_cn 11) 208 mi_M_isPlan 1 := Or.inr (Or.inl ⟨rfl, ok_mi_M_isPlan, Or.inl (pt_w_ok (i := 1364) (by decide +kernel)), wa_mi_M_isPlan, wb_mi_M_isPlan, _, _, rfl⟩)
set_option maxRecDepth 100000 in
theorem lk_11_211 : pm_OM pt_cl pt_Ts tables_1 pt_cn (pt_cn 11) 211 mi_M_isCable 1 := Or.inr (Or.inl ⟨rfl, ok_mi_M_isCable, Or.inl (pt_w_ok (i := 1360) (by decide +kernel)), wa_mi_M_isCable, wb_mi_M_isCable, _, _, rfl⟩)
set_option maxRecDepth 100000 in
theorem lk_11_214 : pm_OM pt_cl pt_Ts tables_1 pt_cn (pt_cn 11) 214 mi_M_isPair 1 := Or.inr (Or.inl ⟨rfl, ok_mi_M_isPair, Or.inl (pt_w_ok (i := 1372) (by decide +kernel)), wa_mi_M_isPair, wb_mi_M_isPair, _, _, rfl⟩)
set_option maxRecDepth 100000 in
theorem lk_11_223 : pm_OM pt_cl pt_Ts tables_1 pt_cn (pt_cn 11) 223 mi_M_isSo 1 := Or.inr (Or.inl ⟨rfl, ok_mi_M_isSo, Or.inl (pt_w_ok (i := 1403) (by decide +kernel)), wa_mi_M_isSo, wb_mi_M_isSo, _, _, rfl⟩)
set_option maxRecDepth 100000 in
theorem lk_11_233 : pm_OM pt_cl pt_Ts tables_1 pt_cn (pt_cn 11) 233 mi_M_isUndone 1 := Or.inr (Or.inl ⟨rfl, ok_mi_M_isUndone, Or.inl (pt_w_ok (i := 1399) (by decide +kernel)), wa_mi_M_isUndone, wb_mi_M_isUndone, _, _, rfl⟩)
set_option maxRecDepth 100000 in
theorem lk_11_236 : pm_OM pt_cl pt_Ts tables_1 pt_cn (pt_cn 11) 236 mi_M_unhang 1 := Or.inr (Or.inl ⟨rfl, ok_mi_M_unhang, Or.inl (pt_w_ok (i := 1407) (by decide +kernel)), wa_mi_M_unhang, wb_mi_M_unhang, _, _, rfl⟩)
set_option maxRecDepth 100000 in
theorem lk_11_239 : pm_OM pt_cl pt_Ts tables_1 pt_cn (pt_cn 11) 239 mi_M_unjoin 1 := Or.inr (Or.inl ⟨rfl, ok_mi_M_unjoin, Or.inl (pt_w_ok (i := 1411) (by decide +kernel)), wa_mi_M_unjoin, wb_mi_M_unjoin, _, _, rfl⟩)
set_option maxRecDepth 100000 in
theorem lk_11_248 : pm_OM pt_cl pt_Ts tables_1 pt_cn (pt_cn 11) 248 mi_M_node 0 := Or.inl ⟨rfl, ok_mi_M_node, Or.inl (pt_w_ok (i := 1427) (by decide +kernel)), wa_mi_M_node⟩
set_option maxRecDepth 100000 in
theorem lk_11_252 : pm_OM pt_cl pt_Ts tables_1 pt_cn (pt_cn 11) 252 mi_M_cameAs 1 := Or.inr (Or.inl ⟨rfl, ok_mi_M_cameAs, Or.inl (pt_w_ok (i := 1434) (by decide +kernel)), wa_mi_M_cameAs, wb_mi_M_cameAs, _, _, rfl⟩)
set_option maxRecDepth 100000 in
theorem lk_11_255 : pm_OM pt_cl pt_Ts tables_1 pt_cn (pt_cn 11) 255 mi_M_longOf 1 := Or.inr (Or.inl ⟨rfl, ok_mi_M_longOf, Or.inl (pt_w_ok (i := 1438) (by decide +kernel)), wa_mi_M_longOf, wb_mi_M_longOf, _, _, rfl⟩)
set_option maxRecDepth 100000 in
theorem lk_11_258 : pm_OM pt_cl pt_Ts tables_1 pt_cn (pt_cn 11) 258 mi_M_breaksTo 1 := Or.inr (Or.inl ⟨rfl, ok_mi_M_breaksTo, Or.inl (pt_w_ok (i := 1442) (by decide +kernel)), wa_mi_M_breaksTo, wb_mi_M_breaksTo, _, _, rfl⟩)
set_option maxRecDepth 100000 in
theorem lk_11_261 : pm_OM pt_cl pt_Ts tables_1 pt_cn (pt_cn 11) 261 mi_M_nearNode 1 := Or.inr (Or.inl ⟨rfl, ok_mi_M_nearNode, Or.inl (pt_w_ok (i := 1423) (by decide +kernel)), wa_mi_M_nearNode, wb_mi_M_nearNode, _, _, rfl⟩)
set_option maxRecDepth 100000 in
theorem lk_11_264 : pm_OM pt_cl pt_Ts tables_1 pt_cn (pt_cn 11) 264 mi_M_farNode 1 := Or.inr (Or.inl ⟨rfl, ok_mi_M_farNode, Or.inl (pt_w_ok (i := 1430) (by decide +kernel)), wa_mi_M_farNode, wb_mi_M_farNode, _, _, rfl⟩)
set_option maxRecDepth 100000 in
theorem lk_11_267 : pm_OM pt_cl pt_Ts tables_1 pt_cn (pt_cn 11) 267 mi_M_links 1 := Or.inr (Or.inl ⟨rfl, ok_mi_M_links, Or.inl (pt_w_ok (i := 1450) (by decide +kernel)), wa_mi_M_links, wb_mi_M_links, _, _, rfl⟩)
set_option maxRecDepth 100000 in
theorem lk_11_270 : pm_OM pt_cl pt_Ts tables_1 pt_cn (pt_cn 11) 270 mi_M_nodeAt 1 := Or.inr (Or.inl ⟨rfl, ok_mi_M_nodeAt, Or.inl (pt_w_ok (i := 1419) (by decide +kernel)), wa_mi_M_nodeAt, wb_mi_M_nodeAt, _, _, rfl⟩)
set_option maxRecDepth 100000 in
theorem lk_11_273 : pm_OM pt_cl pt_Ts tables_1 pt_cn (pt_cn 11) 273 mi_M_sound 1 := Or.inr (Or.inl ⟨rfl, ok_mi_M_sound, Or.inl (pt_w_ok (i := 1446) (by decide +kernel)), wa_mi_M_sound, wb_mi_M_sound, _, _, rfl⟩)
set_option maxRecDepth 100000 in
theorem lk_11_276 : pm_OM pt_cl pt_Ts tables_1 pt_cn (pt_cn 11) 276 mi_M_isWorld 1 := Or.inr (Or.inl ⟨rfl, ok_mi_M_isWorld, Or.inl (pt_w_ok (i := 1388) (by decide +kernel)), wa_mi_M_isWorld, wb_mi_M_isWorld, _, _, rfl⟩)
set_option maxRecDepth 100000 in
theorem lk_11_279 : pm_OM pt_cl pt_Ts tables_1 pt_cn (pt_cn 11) 279 mi_M_isEnd 0 := Or.inl ⟨rfl, ok_mi_M_isEnd, Or.inl (pt_w_ok (i := 1392) (by decide +kernel)), wa_mi_M_isEnd⟩
set_option maxRecDepth 100000 in
theorem lk_11_282 : pm_OM pt_cl pt_Ts tables_1 pt_cn (pt_cn 11) 282 mi_M_lay 1 := Or.inr (Or.inl ⟨rfl, ok_mi_M_lay, Or.inl (pt_w_ok (i := 1395) (by decide +kernel)), wa_mi_M_lay, wb_mi_M_lay, _, _, rfl⟩)
set_option maxRecDepth 100000 in
theorem lk_11_286 : pm_OM pt_cl pt_Ts tables_1 pt_cn (pt_cn 11) 286 mi_M_heardAt 1 := Or.inr (Or.inl ⟨rfl, ok_mi_M_heardAt, Or.inl (pt_w_ok (i := 1415) (by decide +kernel)), wa_mi_M_heardAt, wb_mi_M_heardAt, _, _, rfl⟩)
set_option maxRecDepth 100000 in
theorem lk_11_290 : pm_OM pt_cl pt_Ts tables_1 pt_cn (pt_cn 11) 290 mi_M_firstTouch 1 := Or.inr (Or.inl ⟨rfl, ok_mi_M_firstTouch, Or.inl (pt_w_ok (i := 1462) (by decide +kernel)), wa_mi_M_firstTouch, wb_mi_M_firstTouch, _, _, rfl⟩)
set_option maxRecDepth 100000 in
theorem lk_11_293 : pm_OM pt_cl pt_Ts tables_1 pt_cn (pt_cn 11) 293 mi_M_firstBreak 1 := Or.inr (Or.inl ⟨rfl, ok_mi_M_firstBreak, Or.inl (pt_w_ok (i := 1466) (by decide +kernel)), wa_mi_M_firstBreak, wb_mi_M_firstBreak, _, _, rfl⟩)
set_option maxRecDepth 100000 in
theorem lk_11_296 : pm_OM pt_cl pt_Ts tables_1 pt_cn (pt_cn 11) 296 mi_M_joinedAhead 1 := Or.inr (Or.inl ⟨rfl, ok_mi_M_joinedAhead, Or.inl (pt_w_ok (i := 1470) (by decide +kernel)), wa_mi_M_joinedAhead, wb_mi_M_joinedAhead, _, _, rfl⟩)
set_option maxRecDepth 100000 in
theorem lk_11_299 : pm_OM pt_cl pt_Ts tables_1 pt_cn (pt_cn 11) 299 mi_M_metresAt 1 := Or.inr (Or.inl ⟨rfl, ok_mi_M_metresAt, Or.inl (pt_w_ok (i := 1458) (by decide +kernel)), wa_mi_M_metresAt, wb_mi_M_metresAt, _, _, rfl⟩)
set_option maxRecDepth 100000 in
theorem lk_11_302 : pm_OM pt_cl pt_Ts tables_1 pt_cn (pt_cn 11) 302 mi_M_isNumberOfHouse 0 := Or.inl ⟨rfl, ok_mi_M_isNumberOfHouse, Or.inl (pt_w_ok (i := 1482) (by decide +kernel)), wa_mi_M_isNumberOfHouse⟩
set_option maxRecDepth 100000 in
theorem lk_11_305 : pm_OM pt_cl pt_Ts tables_1 pt_cn (pt_cn 11) 305 mi_M_hangsAt 1 := Or.inr (Or.inl ⟨rfl, ok_mi_M_hangsAt, Or.inl (pt_w_ok (i := 1485) (by decide +kernel)), wa_mi_M_hangsAt, wb_mi_M_hangsAt, _, _, rfl⟩)
set_option maxRecDepth 100000 in
theorem lk_11_310 : pm_OM pt_cl pt_Ts tables_1 pt_cn (pt_cn 11) 310 mi_M_feeds 1 := Or.inr (Or.inl ⟨rfl, ok_mi_M_feeds, Or.inl (pt_w_ok (i := 1494) (by decide +kernel)), wa_mi_M_feeds, wb_mi_M_feeds, _, _, rfl⟩)
set_option maxRecDepth 100000 in
theorem lk_11_314 : pm_OM pt_cl pt_Ts tables_1 pt_cn (pt_cn 11) 314 mi_Lng_bitCount 0 := Or.inl ⟨rfl, ok_mi_Lng_bitCount, Or.inl (pt_w_ok (i := 1502) (by decide +kernel)), wa_mi_Lng_bitCount⟩
set_option maxRecDepth 100000 in
theorem lk_11_320 : pm_OM pt_cl pt_Ts tables_1 pt_cn (pt_cn 11) 320 mi_M_would 1 := Or.inr (Or.inl ⟨rfl, ok_mi_M_would, Or.inl (pt_w_ok (i := 1527) (by decide +kernel)), wa_mi_M_would, wb_mi_M_would, _, _, rfl⟩)
set_option maxRecDepth 100000 in
theorem lk_11_323 : pm_OM pt_cl pt_Ts tables_1 pt_cn (pt_cn 11) 323 mi_M_isTest 1 := Or.inr (Or.inl ⟨rfl, ok_mi_M_isTest, Or.inl (pt_w_ok (i := 1519) (by decide +kernel)), wa_mi_M_isTest, wb_mi_M_isTest, _, _, rfl⟩)
set_option maxRecDepth 100000 in
theorem lk_11_326 : pm_OM pt_cl pt_Ts tables_1 pt_cn (pt_cn 11) 326 mi_M_wouldIn 1 := Or.inr (Or.inl ⟨rfl, ok_mi_M_wouldIn, Or.inl (pt_w_ok (i := 1523) (by decide +kernel)), wa_mi_M_wouldIn, wb_mi_M_wouldIn, _, _, rfl⟩)
set_option maxRecDepth 100000 in
theorem lk_11_330 : pm_OM pt_cl pt_Ts tables_1 pt_cn (pt_cn 11) 330 mi_M_fits 1 := Or.inr (Or.inl ⟨rfl, ok_mi_M_fits, Or.inl (pt_w_ok (i := 1543) (by decide +kernel)), wa_mi_M_fits, wb_mi_M_fits, _, _, rfl⟩)
set_option maxRecDepth 100000 in
theorem lk_11_333 : pm_OM pt_cl pt_Ts tables_1 pt_cn (pt_cn 11) 333 mi_Int_bitCount 0 := Or.inl ⟨rfl, ok_mi_Int_bitCount, Or.inl (pt_w_ok (i := 1551) (by decide +kernel)), wa_mi_Int_bitCount⟩
set_option maxRecDepth 100000 in
theorem lk_11_343 : pm_OM pt_cl pt_Ts tables_1 pt_cn (pt_cn 11) 343 mi_Arr_fill 5 := Or.inr (Or.inr (Or.inr (Or.inr (Or.inr (Or.inl ⟨rfl, pt_w_ok (i := 1568) (by decide +kernel), pt_w_ok (i := 116) (by decide +kernel), pt_w_ok (i := 10) (by decide +kernel), pt_w_ok (i := 117) (by decide +kernel)⟩)))))
set_option maxRecDepth 100000 in
theorem lk_11_348 : pm_OM pt_cl pt_Ts tables_1 pt_cn (pt_cn 11) 348 mi_M_layFits 1 := Or.inr (Or.inl ⟨rfl, ok_mi_M_layFits, Or.inl (pt_w_ok (i := 1560) (by decide +kernel)), wa_mi_M_layFits, wb_mi_M_layFits, _, _, rfl⟩)
set_option maxRecDepth 100000 in
theorem lk_11_351 : pm_OM pt_cl pt_Ts tables_1 pt_cn (pt_cn 11) 351 mi_M_layParts 1 := Or.inr (Or.inl ⟨rfl, ok_mi_M_layParts, Or.inl (pt_w_ok (i := 1564) (by decide +kernel)), wa_mi_M_layParts, wb_mi_M_layParts, _, _, rfl⟩)
set_option maxRecDepth 100000 in
theorem lk_11_354 : pm_OM pt_cl pt_Ts tables_1 pt_cn (pt_cn 11) 354 mi_M_up 1 := Or.inr (Or.inl ⟨rfl, ok_mi_M_up, Or.inl (pt_w_ok (i := 1581) (by decide +kernel)), wa_mi_M_up, wb_mi_M_up, _, _, rfl⟩)
set_option maxRecDepth 100000 in
theorem lk_11_357 : pm_OM pt_cl pt_Ts tables_1 pt_cn (pt_cn 11) 357 mi_M_upTo 1 := Or.inr (Or.inl ⟨rfl, ok_mi_M_upTo, Or.inl (pt_w_ok (i := 1577) (by decide +kernel)), wa_mi_M_upTo, wb_mi_M_upTo, _, _, rfl⟩)
set_option maxRecDepth 100000 in
theorem lk_11_360 : pm_OM pt_cl pt_Ts tables_1 pt_cn (pt_cn 11) 360 mi_M_walkOf 1 := Or.inr (Or.inl ⟨rfl, ok_mi_M_walkOf, Or.inl (pt_w_ok (i := 1573) (by decide +kernel)), wa_mi_M_walkOf, wb_mi_M_walkOf, _, _, rfl⟩)
set_option maxRecDepth 100000 in
theorem lk_11_363 : pm_OM pt_cl pt_Ts tables_1 pt_cn (pt_cn 11) 363 mi_M_boxOf 1 := Or.inr (Or.inl ⟨rfl, ok_mi_M_boxOf, Or.inl (pt_w_ok (i := 1589) (by decide +kernel)), wa_mi_M_boxOf, wb_mi_M_boxOf, _, _, rfl⟩)
set_option maxRecDepth 100000 in
theorem lk_11_366 : pm_OM pt_cl pt_Ts tables_1 pt_cn (pt_cn 11) 366 mi_Arr_fill 7 := Or.inr (Or.inr (Or.inr (Or.inr (Or.inr (Or.inr (Or.inr (Or.inl ⟨rfl, pt_w_ok (i := 1597) (by decide +kernel), pt_w_ok (i := 970) (by decide +kernel), pt_w_ok (i := 10) (by decide +kernel), pt_w_ok (i := 971) (by decide +kernel)⟩)))))))
set_option maxRecDepth 100000 in
theorem lk_11_372 : pm_OM pt_cl pt_Ts tables_1 pt_cn (pt_cn 11) 372 mi_M_pairOf 1 := Or.inr (Or.inl ⟨rfl, ok_mi_M_pairOf, Or.inl (pt_w_ok (i := 1614) (by decide +kernel)), wa_mi_M_pairOf, wb_mi_M_pairOf, _, _, rfl⟩)
set_option maxRecDepth 100000 in
theorem lk_11_375 : pm_OM pt_cl pt_Ts tables_1 pt_cn (pt_cn 11) 375 mi_M_isAstray 1 := Or.inr (Or.inl ⟨rfl, ok_mi_M_isAstray, Or.inl (pt_w_ok (i := 1610) (by decide +kernel)), wa_mi_M_isAstray, wb_mi_M_isAstray, _, _, rfl⟩)
set_option maxRecDepth 100000 in
theorem lk_11_378 : pm_OM pt_cl pt_Ts tables_1 pt_cn (pt_cn 11) 378 mi_M_isFree 1 := Or.inr (Or.inl ⟨rfl, ok_mi_M_isFree, Or.inl (pt_w_ok (i := 1618) (by decide +kernel)), wa_mi_M_isFree, wb_mi_M_isFree, _, _, rfl⟩)
set_option maxRecDepth 100000 in
theorem lk_11_381 : pm_OM pt_cl pt_Ts tables_1 pt_cn (pt_cn 11) 381 mi_M_goes 1 := Or.inr (Or.inl ⟨rfl, ok_mi_M_goes, Or.inl (pt_w_ok (i := 1622) (by decide +kernel)), wa_mi_M_goes, wb_mi_M_goes, _, _, rfl⟩)
set_option maxRecDepth 100000 in
theorem lk_11_385 : pm_OM pt_cl pt_Ts tables_1 pt_cn (pt_cn 11) 385 mi_M_goesHome 1 := Or.inr (Or.inl ⟨rfl, ok_mi_M_goesHome, Or.inl (pt_w_ok (i := 1606) (by decide +kernel)), wa_mi_M_goesHome, wb_mi_M_goesHome, _, _, rfl⟩)
set_option maxRecDepth 100000 in
theorem lk_11_388 : pm_OM pt_cl pt_Ts tables_1 pt_cn (pt_cn 11) 388 mi_M_givesWay 1 := Or.inr (Or.inl ⟨rfl, ok_mi_M_givesWay, Or.inl (pt_w_ok (i := 1626) (by decide +kernel)), wa_mi_M_givesWay, wb_mi_M_givesWay, _, _, rfl⟩)
set_option maxRecDepth 100000 in
theorem lk_12_7 : pm_OM pt_cl pt_Ts tables_1 pt_cn (pt_cn 12) 7 mi_BP_cable 1 := Or.inr (Or.inl ⟨rfl, ok_mi_BP_cable, Or.inl (pt_w_ok (i := 1037) (by decide +kernel)), wa_mi_BP_cable, wb_mi_BP_cable, _, _, rfl⟩)
set_option maxRecDepth 100000 in
theorem lk_12_15 : pm_OM pt_cl pt_Ts tables_1 pt_cn (pt_cn 12) 15 mi_BP_init 2 := Or.inr (Or.inr (Or.inl ⟨rfl, ok_mi_BP_init, Or.inl (pt_w_ok (i := 24) (by decide +kernel)), wa_mi_BP_init, rfl, rfl⟩))
set_option maxRecDepth 100000 in
theorem lk_12_18 : pm_OM pt_cl pt_Ts tables_1 pt_cn (pt_cn 12) 18 mi_M_init 2 := Or.inr (Or.inr (Or.inl ⟨rfl, ok_mi_M_init, Or.inl (pt_w_ok (i := 1105) (by decide +kernel)), wa_mi_M_init, rfl, rfl⟩))
set_option maxRecDepth 100000 in
theorem lk_12_19 : pm_OM pt_cl pt_Ts tables_1 pt_cn (pt_cn 12) 19 mi_BP_feed 1 := Or.inr (Or.inl ⟨rfl, ok_mi_BP_feed, Or.inl (pt_w_ok (i := 359) (by decide +kernel)), wa_mi_BP_feed, wb_mi_BP_feed, _, _, rfl⟩)
set_option maxRecDepth 100000 in
theorem lk_12_23 : pm_OM pt_cl pt_Ts tables_1 pt_cn (pt_cn 12) 23 mi_M_feed 1 := Or.inr (Or.inl ⟨rfl, ok_mi_M_feed, Or.inl (pt_w_ok (i := 1290) (by decide +kernel)), wa_mi_M_feed, wb_mi_M_feed, _, _, rfl⟩)
set_option maxRecDepth 100000 in
theorem lk_12_24 : pm_OM pt_cl pt_Ts tables_1 pt_cn (pt_cn 12) 24 mi_BP_end 1 := Or.inr (Or.inl ⟨rfl, ok_mi_BP_end, Or.inl (pt_w_ok (i := 377) (by decide +kernel)), wa_mi_BP_end, wb_mi_BP_end, _, _, rfl⟩)
set_option maxRecDepth 100000 in
theorem lk_12_28 : pm_OM pt_cl pt_Ts tables_1 pt_cn (pt_cn 12) 28 mi_M_end 1 := Or.inr (Or.inl ⟨rfl, ok_mi_M_end, Or.inl (pt_w_ok (i := 1301) (by decide +kernel)), wa_mi_M_end, wb_mi_M_end, _, _, rfl⟩)
set_option maxRecDepth 100000 in
theorem lk_12_29 : pm_OM pt_cl pt_Ts tables_1 pt_cn (pt_cn 12) 29 mi_BP_fault 1 := Or.inr (Or.inl ⟨rfl, ok_mi_BP_fault, Or.inl (pt_w_ok (i := 385) (by decide +kernel)), wa_mi_BP_fault, wb_mi_BP_fault, _, _, rfl⟩)
set_option maxRecDepth 100000 in
theorem lk_12_33 : pm_OM pt_cl pt_Ts tables_1 pt_cn (pt_cn 12) 33 mi_M_fault 1 := Or.inr (Or.inl ⟨rfl, ok_mi_M_fault, Or.inl (pt_w_ok (i := 1305) (by decide +kernel)), wa_mi_M_fault, wb_mi_M_fault, _, _, rfl⟩)
set_option maxRecDepth 100000 in
theorem lk_12_34 : pm_OM pt_cl pt_Ts tables_1 pt_cn (pt_cn 12) 34 mi_BP_plan 1 := Or.inr (Or.inl ⟨rfl, ok_mi_BP_plan, Or.inl (pt_w_ok (i := 522) (by decide +kernel)), wa_mi_BP_plan, wb_mi_BP_plan, _, _, rfl⟩)
set_option maxRecDepth 100000 in
theorem lk_12_37 : pm_OM pt_cl pt_Ts tables_1 pt_cn (pt_cn 12) 37 mi_M_plan 1 := Or.inr (Or.inl ⟨rfl, ok_mi_M_plan, Or.inl (pt_w_ok (i := 1352) (by decide +kernel)), wa_mi_M_plan, wb_mi_M_plan, _, _, rfl⟩)
set_option maxRecDepth 100000 in
theorem lk_12_38 : pm_OM pt_cl pt_Ts tables_1 pt_cn (pt_cn 12) 38 mi_Law_cable 8 := Or.inr (Or.inr (Or.inr (Or.inr (Or.inr (Or.inr (Or.inr (Or.inr (⟨rfl, trivial⟩))))))))
set_option maxRecDepth 100000 in
theorem lk_12_43 : pm_OM pt_cl pt_Ts tables_1 pt_cn (pt_cn 12) 43 mi_M_cable 1 := Or.inr (Or.inl ⟨rfl, ok_mi_M_cable, Or.inl (pt_w_ok (i := 1356) (by decide +kernel)), wa_mi_M_cable, wb_mi_M_cable, _, _, rfl⟩)
set_option maxRecDepth 100000 in
theorem lk_12_44 : pm_OM pt_cl pt_Ts tables_1 pt_cn (pt_cn 12) 44 mi_M_thrown 1 := Or.inr (Or.inl ⟨rfl, ok_mi_M_thrown, Or.inl (pt_w_ok (i := 1286) (by decide +kernel)), wa_mi_M_thrown, wb_mi_M_thrown, _, _, rfl⟩)
set_option maxRecDepth 100000 in
theorem lk_12_47 : pm_OM pt_cl pt_Ts tables_1 pt_cn (pt_cn 12) 47 mi_BP_joint 1 := Or.inr (Or.inl ⟨rfl, ok_mi_BP_joint, Or.inl (pt_w_ok (i := 526) (by decide +kernel)), wa_mi_BP_joint, wb_mi_BP_joint, _, _, rfl⟩)
set_option maxRecDepth 100000 in
theorem lk_12_50 : pm_OM pt_cl pt_Ts tables_1 pt_cn (pt_cn 12) 50 mi_M_joint 1 := Or.inr (Or.inl ⟨rfl, ok_mi_M_joint, Or.inl (pt_w_ok (i := 1474) (by decide +kernel)), wa_mi_M_joint, wb_mi_M_joint, _, _, rfl⟩)
set_option maxRecDepth 100000 in
theorem lk_12_51 : pm_OM pt_cl pt_Ts tables_1 pt_cn (pt_cn 12) 51 mi_BP_house 1 := Or.inr (Or.inl ⟨rfl, ok_mi_BP_house, Or.inl (pt_w_ok (i := 540) (by decide +kernel)), wa_mi_BP_house, wb_mi_BP_house, _, _, rfl⟩)
set_option maxRecDepth 100000 in
theorem lk_12_55 : pm_OM pt_cl pt_Ts tables_1 pt_cn (pt_cn 12) 55 mi_M_house 1 := Or.inr (Or.inl ⟨rfl, ok_mi_M_house, Or.inl (pt_w_ok (i := 1478) (by decide +kernel)), wa_mi_M_house, wb_mi_M_house, _, _, rfl⟩)
set_option maxRecDepth 100000 in
theorem lk_12_56 : pm_OM pt_cl pt_Ts tables_1 pt_cn (pt_cn 12) 56 mi_BP_slip 1 := Or.inr (Or.inl ⟨rfl, ok_mi_BP_slip, Or.inl (pt_w_ok (i := 544) (by decide +kernel)), wa_mi_BP_slip, wb_mi_BP_slip, _, _, rfl⟩)
set_option maxRecDepth 100000 in
theorem lk_12_60 : pm_OM pt_cl pt_Ts tables_1 pt_cn (pt_cn 12) 60 mi_M_slip 1 := Or.inr (Or.inl ⟨rfl, ok_mi_M_slip, Or.inl (pt_w_ok (i := 1368) (by decide +kernel)), wa_mi_M_slip, wb_mi_M_slip, _, _, rfl⟩)
set_option maxRecDepth 100000 in
theorem lk_12_61 : pm_OM pt_cl pt_Ts tables_1 pt_cn (pt_cn 12) 61 mi_BP_trouble 1 := Or.inr (Or.inl ⟨rfl, ok_mi_BP_trouble, Or.inl (pt_w_ok (i := 566) (by decide +kernel)), wa_mi_BP_trouble, wb_mi_BP_trouble, _, _, rfl⟩)
set_option maxRecDepth 100000 in
theorem lk_12_64 : pm_OM pt_cl pt_Ts tables_1 pt_cn (pt_cn 12) 64 mi_M_trouble 1 := Or.inr (Or.inl ⟨rfl, ok_mi_M_trouble, Or.inl (pt_w_ok (i := 1376) (by decide +kernel)), wa_mi_M_trouble, wb_mi_M_trouble, _, _, rfl⟩)
set_option maxRecDepth 100000 in
theorem lk_12_65 : pm_OM pt_cl pt_Ts tables_1 pt_cn (pt_cn 12) 65 mi_BP_troubles 1 := Or.inr (Or.inl ⟨rfl, ok_mi_BP_troubles, Or.inl (pt_w_ok (i := 583) (by decide +kernel)), wa_mi_BP_troubles, wb_mi_BP_troubles, _, _, rfl⟩)
set_option maxRecDepth 100000 in
theorem lk_12_69 : pm_OM pt_cl pt_Ts tables_1 pt_cn (pt_cn 12) 69 mi_M_troubles 1 := Or.inr (Or.inl ⟨rfl, ok_mi_M_troubles, Or.inl (pt_w_ok (i := 1380) (by decide +kernel)), wa_mi_M_troubles, wb_mi_M_troubles, _, _, rfl⟩)
set_option maxRecDepth 100000 in
theorem lk_12_70 : pm_OM pt_cl pt_Ts tables_1 pt_cn (pt_cn 12) 70 mi_BP_heard 1 := Or.inr (Or.inl ⟨rfl, ok_mi_BP_heard, Or.inl (pt_w_ok (i := 588) (by decide +kernel)), wa_mi_BP_heard, wb_mi_BP_heard, _, _, rfl⟩)
set_option maxRecDepth 100000 in
theorem lk_12_74 : pm_OM pt_cl pt_Ts tables_1 pt_cn (pt_cn 12) 74 mi_M_heard 1 := Or.inr (Or.inl ⟨rfl, ok_mi_M_heard, Or.inl (pt_w_ok (i := 1384) (by decide +kernel)), wa_mi_M_heard, wb_mi_M_heard, _, _, rfl⟩)
set_option maxRecDepth 100000 in
theorem lk_12_75 : pm_OM pt_cl pt_Ts tables_1 pt_cn (pt_cn 12) 75 mi_BP_metres 1 := Or.inr (Or.inl ⟨rfl, ok_mi_BP_metres, Or.inl (pt_w_ok (i := 689) (by decide +kernel)), wa_mi_BP_metres, wb_mi_BP_metres, _, _, rfl⟩)
set_option maxRecDepth 100000 in
theorem lk_12_79 : pm_OM pt_cl pt_Ts tables_1 pt_cn (pt_cn 12) 79 mi_M_metres 1 := Or.inr (Or.inl ⟨rfl, ok_mi_M_metres, Or.inl (pt_w_ok (i := 1454) (by decide +kernel)), wa_mi_M_metres, wb_mi_M_metres, _, _, rfl⟩)
set_option maxRecDepth 100000 in
theorem lk_12_80 : pm_OM pt_cl pt_Ts tables_1 pt_cn (pt_cn 12) 80 mi_BP_fed 1 := Or.inr (Or.inl ⟨rfl, ok_mi_BP_fed, Or.inl (pt_w_ok (i := 716) (by decide +kernel)), wa_mi_BP_fed, wb_mi_BP_fed, _, _, rfl⟩)
set_option maxRecDepth 100000 in
theorem lk_12_84 : pm_OM pt_cl pt_Ts tables_1 pt_cn (pt_cn 12) 84 mi_M_fed 1 := Or.inr (Or.inl ⟨rfl, ok_mi_M_fed, Or.inl (pt_w_ok (i := 1489) (by decide +kernel)), wa_mi_M_fed, wb_mi_M_fed, _, _, rfl⟩)
set_option maxRecDepth 100000 in
theorem lk_12_85 : pm_OM pt_cl pt_Ts tables_1 pt_cn (pt_cn 12) 85 mi_BP_served 1 := Or.inr (Or.inl ⟨rfl, ok_mi_BP_served, Or.inl (pt_w_ok (i := 736) (by decide +kernel)), wa_mi_BP_served, wb_mi_BP_served, _, _, rfl⟩)
set_option maxRecDepth 100000 in
theorem lk_12_89 : pm_OM pt_cl pt_Ts tables_1 pt_cn (pt_cn 12) 89 mi_M_served 1 := Or.inr (Or.inl ⟨rfl, ok_mi_M_served, Or.inl (pt_w_ok (i := 1498) (by decide +kernel)), wa_mi_M_served, wb_mi_M_served, _, _, rfl⟩)
set_option maxRecDepth 100000 in
theorem lk_12_90 : pm_OM pt_cl pt_Ts tables_1 pt_cn (pt_cn 12) 90 mi_BP_neighbours 1 := Or.inr (Or.inl ⟨rfl, ok_mi_BP_neighbours, Or.inl (pt_w_ok (i := 756) (by decide +kernel)), wa_mi_BP_neighbours, wb_mi_BP_neighbours, _, _, rfl⟩)
set_option maxRecDepth 100000 in
theorem lk_12_94 : pm_OM pt_cl pt_Ts tables_1 pt_cn (pt_cn 12) 94 mi_M_neighbours 1 := Or.inr (Or.inl ⟨rfl, ok_mi_M_neighbours, Or.inl (pt_w_ok (i := 1503) (by decide +kernel)), wa_mi_M_neighbours, wb_mi_M_neighbours, _, _, rfl⟩)
set_option maxRecDepth 100000 in
theorem lk_12_95 : pm_OM pt_cl pt_Ts tables_1 pt_cn (pt_cn 12) 95 mi_BP_spare 1 := Or.inr (Or.inl ⟨rfl, ok_mi_BP_spare, Or.inl (pt_w_ok (i := 768) (by decide +kernel)), wa_mi_BP_spare, wb_mi_BP_spare, _, _, rfl⟩)
set_option maxRecDepth 100000 in
theorem lk_12_98 : pm_OM pt_cl pt_Ts tables_1 pt_cn (pt_cn 12) 98 mi_M_spare 1 := Or.inr (Or.inl ⟨rfl, ok_mi_M_spare, Or.inl (pt_w_ok (i := 1507) (by decide +kernel)), wa_mi_M_spare, wb_mi_M_spare, _, _, rfl⟩)
set_option maxRecDepth 100000 in
theorem lk_12_99 : pm_OM pt_cl pt_Ts tables_1 pt_cn (pt_cn 12) 99 mi_BP_test 1 := Or.inr (Or.inl ⟨rfl, ok_mi_BP_test, Or.inl (pt_w_ok (i := 792) (by decide +kernel)), wa_mi_BP_test, wb_mi_BP_test, _, _, rfl⟩)
set_option maxRecDepth 100000 in
theorem lk_12_103 : pm_OM pt_cl pt_Ts tables_1 pt_cn (pt_cn 12) 103 mi_M_test 1 := Or.inr (Or.inl ⟨rfl, ok_mi_M_test, Or.inl (pt_w_ok (i := 1511) (by decide +kernel)), wa_mi_M_test, wb_mi_M_test, _, _, rfl⟩)
set_option maxRecDepth 100000 in
theorem lk_12_104 : pm_OM pt_cl pt_Ts tables_1 pt_cn (pt_cn 12) 104 mi_BP_tells 1 := Or.inr (Or.inl ⟨rfl, ok_mi_BP_tells, Or.inl (pt_w_ok (i := 797) (by decide +kernel)), wa_mi_BP_tells, wb_mi_BP_tells, _, _, rfl⟩)
set_option maxRecDepth 100000 in
theorem lk_12_108 : pm_OM pt_cl pt_Ts tables_1 pt_cn (pt_cn 12) 108 mi_M_tells 1 := Or.inr (Or.inl ⟨rfl, ok_mi_M_tells, Or.inl (pt_w_ok (i := 1515) (by decide +kernel)), wa_mi_M_tells, wb_mi_M_tells, _, _, rfl⟩)
set_option maxRecDepth 100000 in
theorem lk_12_109 : pm_OM pt_cl pt_Ts tables_1 pt_cn (pt_cn 12) 109 mi_BP_read 1 := Or.inr (Or.inl ⟨rfl, ok_mi_BP_read, Or.inl (pt_w_ok (i := 809) (by decide +kernel)), wa_mi_BP_read, wb_mi_BP_read, _, _, rfl⟩)
set_option maxRecDepth 100000 in
theorem lk_12_112 : pm_OM pt_cl pt_Ts tables_1 pt_cn (pt_cn 12) 112 mi_M_read 1 := Or.inr (Or.inl ⟨rfl, ok_mi_M_read, Or.inl (pt_w_ok (i := 1531) (by decide +kernel)), wa_mi_M_read, wb_mi_M_read, _, _, rfl⟩)
set_option maxRecDepth 100000 in
theorem lk_12_113 : pm_OM pt_cl pt_Ts tables_1 pt_cn (pt_cn 12) 113 mi_BP_unread 1 := Or.inr (Or.inl ⟨rfl, ok_mi_BP_unread, Or.inl (pt_w_ok (i := 821) (by decide +kernel)), wa_mi_BP_unread, wb_mi_BP_unread, _, _, rfl⟩)
set_option maxRecDepth 100000 in
theorem lk_12_116 : pm_OM pt_cl pt_Ts tables_1 pt_cn (pt_cn 12) 116 mi_M_unread 1 := Or.inr (Or.inl ⟨rfl, ok_mi_M_unread, Or.inl (pt_w_ok (i := 1535) (by decide +kernel)), wa_mi_M_unread, wb_mi_M_unread, _, _, rfl⟩)
set_option maxRecDepth 100000 in
theorem lk_12_117 : pm_OM pt_cl pt_Ts tables_1 pt_cn (pt_cn 12) 117 mi_BP_fitting 1 := Or.inr (Or.inl ⟨rfl, ok_mi_BP_fitting, Or.inl (pt_w_ok (i := 829) (by decide +kernel)), wa_mi_BP_fitting, wb_mi_BP_fitting, _, _, rfl⟩)
set_option maxRecDepth 100000 in
theorem lk_12_120 : pm_OM pt_cl pt_Ts tables_1 pt_cn (pt_cn 12) 120 mi_M_fitting 1 := Or.inr (Or.inl ⟨rfl, ok_mi_M_fitting, Or.inl (pt_w_ok (i := 1539) (by decide +kernel)), wa_mi_M_fitting, wb_mi_M_fitting, _, _, rfl⟩)
set_option maxRecDepth 100000 in
theorem lk_12_121 : pm_OM pt_cl pt_Ts tables_1 pt_cn (pt_cn 12) 121 mi_BP_fewest 1 := Or.inr (Or.inl ⟨rfl, ok_mi_BP_fewest, Or.inl (pt_w_ok (i := 878) (by decide +kernel)), wa_mi_BP_fewest, wb_mi_BP_fewest, _, _, rfl⟩)
set_option maxRecDepth 100000 in
theorem lk_12_124 : pm_OM pt_cl pt_Ts tables_1 pt_cn (pt_cn 12) 124 mi_M_fewest 1 := Or.inr (Or.inl ⟨rfl, ok_mi_M_fewest, Or.inl (pt_w_ok (i := 1547) (by decide +kernel)), wa_mi_M_fewest, wb_mi_M_fewest, _, _, rfl⟩)
set_option maxRecDepth 100000 in
theorem lk_12_125 : pm_OM pt_cl pt_Ts tables_1 pt_cn (pt_cn 12) 125 mi_BP_sure 1 := Or.inr (Or.inl ⟨rfl, ok_mi_BP_sure, Or.inl (pt_w_ok (i := 896) (by decide +kernel)), wa_mi_BP_sure, wb_mi_BP_sure, _, _, rfl⟩)
set_option maxRecDepth 100000 in
theorem lk_12_128 : pm_OM pt_cl pt_Ts tables_1 pt_cn (pt_cn 12) 128 mi_M_sure 1 := Or.inr (Or.inl ⟨rfl, ok_mi_M_sure, Or.inl (pt_w_ok (i := 1552) (by decide +kernel)), wa_mi_M_sure, wb_mi_M_sure, _, _, rfl⟩)
set_option maxRecDepth 100000 in
theorem lk_12_129 : pm_OM pt_cl pt_Ts tables_1 pt_cn (pt_cn 12) 129 mi_BP_parts 1 := Or.inr (Or.inl ⟨rfl, ok_mi_BP_parts, Or.inl (pt_w_ok (i := 908) (by decide +kernel)), wa_mi_BP_parts, wb_mi_BP_parts, _, _, rfl⟩)
set_option maxRecDepth 100000 in
theorem lk_12_132 : pm_OM pt_cl pt_Ts tables_1 pt_cn (pt_cn 12) 132 mi_M_parts 1 := Or.inr (Or.inl ⟨rfl, ok_mi_M_parts, Or.inl (pt_w_ok (i := 1556) (by decide +kernel)), wa_mi_M_parts, wb_mi_M_parts, _, _, rfl⟩)
set_option maxRecDepth 100000 in
theorem lk_12_133 : pm_OM pt_cl pt_Ts tables_1 pt_cn (pt_cn 12) 133 mi_BP_next 1 := Or.inr (Or.inl ⟨rfl, ok_mi_BP_next, Or.inl (pt_w_ok (i := 922) (by decide +kernel)), wa_mi_BP_next, wb_mi_BP_next, _, _, rfl⟩)
set_option maxRecDepth 100000 in
theorem lk_12_137 : pm_OM pt_cl pt_Ts tables_1 pt_cn (pt_cn 12) 137 mi_M_next 1 := Or.inr (Or.inl ⟨rfl, ok_mi_M_next, Or.inl (pt_w_ok (i := 1585) (by decide +kernel)), wa_mi_M_next, wb_mi_M_next, _, _, rfl⟩)
set_option maxRecDepth 100000 in
theorem lk_12_138 : pm_OM pt_cl pt_Ts tables_1 pt_cn (pt_cn 12) 138 mi_BP_walk 1 := Or.inr (Or.inl ⟨rfl, ok_mi_BP_walk, Or.inl (pt_w_ok (i := 949) (by decide +kernel)), wa_mi_BP_walk, wb_mi_BP_walk, _, _, rfl⟩)
set_option maxRecDepth 100000 in
theorem lk_12_141 : pm_OM pt_cl pt_Ts tables_1 pt_cn (pt_cn 12) 141 mi_M_walk 1 := Or.inr (Or.inl ⟨rfl, ok_mi_M_walk, Or.inl (pt_w_ok (i := 1569) (by decide +kernel)), wa_mi_M_walk, wb_mi_M_walk, _, _, rfl⟩)
set_option maxRecDepth 100000 in
theorem lk_12_142 : pm_OM pt_cl pt_Ts tables_1 pt_cn (pt_cn 12) 142 mi_BP_distance 1 := Or.inr (Or.inl ⟨rfl, ok_mi_BP_distance, Or.inl (pt_w_ok (i := 954) (by decide +kernel)), wa_mi_BP_distance, wb_mi_BP_distance, _, _, rfl⟩)
set_option maxRecDepth 100000 in
theorem lk_12_145 : pm_OM pt_cl pt_Ts tables_1 pt_cn (pt_cn 12) 145 mi_M_distance 1 := Or.inr (Or.inl ⟨rfl, ok_mi_M_distance, Or.inl (pt_w_ok (i := 1593) (by decide +kernel)), wa_mi_M_distance, wb_mi_M_distance, _, _, rfl⟩)
set_option maxRecDepth 100000 in
theorem lk_12_146 : pm_OM pt_cl pt_Ts tables_1 pt_cn (pt_cn 12) 146 mi_BP_want 1 := Or.inr (Or.inl ⟨rfl, ok_mi_BP_want, Or.inl (pt_w_ok (i := 972) (by decide +kernel)), wa_mi_BP_want, wb_mi_BP_want, _, _, rfl⟩)
set_option maxRecDepth 100000 in
theorem lk_12_150 : pm_OM pt_cl pt_Ts tables_1 pt_cn (pt_cn 12) 150 mi_M_want 1 := Or.inr (Or.inl ⟨rfl, ok_mi_M_want, Or.inl (pt_w_ok (i := 1598) (by decide +kernel)), wa_mi_M_want, wb_mi_M_want, _, _, rfl⟩)
set_option maxRecDepth 100000 in
theorem lk_12_151 : pm_OM pt_cl pt_Ts tables_1 pt_cn (pt_cn 12) 151 mi_BP_moves 1 := Or.inr (Or.inl ⟨rfl, ok_mi_BP_moves, Or.inl (pt_w_ok (i := 985) (by decide +kernel)), wa_mi_BP_moves, wb_mi_BP_moves, _, _, rfl⟩)
set_option maxRecDepth 100000 in
theorem lk_12_155 : pm_OM pt_cl pt_Ts tables_1 pt_cn (pt_cn 12) 155 mi_M_moves 1 := Or.inr (Or.inl ⟨rfl, ok_mi_M_moves, Or.inl (pt_w_ok (i := 1602) (by decide +kernel)), wa_mi_M_moves, wb_mi_M_moves, _, _, rfl⟩)
set_option maxRecDepth 100000 in
theorem lk_12_156 : pm_OM pt_cl pt_Ts tables_1 pt_cn (pt_cn 12) 156 mi_BP_count 1 := Or.inr (Or.inl ⟨rfl, ok_mi_BP_count, Or.inl (pt_w_ok (i := 1029) (by decide +kernel)), wa_mi_BP_count, wb_mi_BP_count, _, _, rfl⟩)
set_option maxRecDepth 100000 in
theorem lk_12_159 : pm_OM pt_cl pt_Ts tables_1 pt_cn (pt_cn 12) 159 mi_M_count 1 := Or.inr (Or.inl ⟨rfl, ok_mi_M_count, Or.inl (pt_w_ok (i := 1630) (by decide +kernel)), wa_mi_M_count, wb_mi_M_count, _, _, rfl⟩)
def pt_ml (co : Nat) : List (Nat × pm_I × Nat) := match co with
  | 0 => [(3, mi_Arr_fill, 3), (11, mi_Wires_init, 2), (20, mi_Tone_init, 2), (40, mi_Tone_send, 1), (48, mi_Tone_feeders, 1), (52, mi_Wires_homeOf, 1), (56, mi_Bench_feedersOf, 1), (60, mi_Lng_bitCount, 0), (66, mi_Bench_isShared, 1), (70, mi_Tone_comesToHome, 1), (73, mi_Plan_pairsOf, 1), (78, mi_BP_siteOf, 0), (82, mi_Wires_jointPairs, 1), (89, mi_Ledger_at, 1), (94, mi_Wires_measure, 1), (98, mi_Tone_comesTo, 1), (111, mi_Bench_columnsRead, 1), (115, mi_Bench_fill, 1), (122, mi_Plan_worlds, 1), (126, mi_Bench_fits, 1), (130, mi_Sheet_addFit, 1), (137, mi_Ledger_size, 1), (140, mi_Bench_columnOfReading, 1), (144, mi_Sheet_columnOf, 0), (148, mi_Sheet_written, 1), (154, mi_Wires_lay, 1), (157, mi_Bench_tell, 1), (161, mi_Sheet_write, 1), (165, mi_Sheet_fitAt, 1), (168, mi_BP_valueAt, 0), (172, mi_BP_setAt, 0), (176, mi_Arr_fill, 5), (181, mi_Plan_boxOfTest, 1), (184, mi_Plan_way, 1), (187, mi_Bench_partFits, 1), (191, mi_BP_cableOf, 0), (194, mi_Plan_lengthOf, 1), (197, mi_Bench_explains, 1), (201, mi_Wires_cut, 1), (205, mi_Arr_fill, 7)]
  | 1 => [(3, mi_Arr_fill, 3), (24, mi_Arr_fill, 0), (30, mi_Arr_fill, 4), (36, mi_BP_valueAt, 0), (40, mi_BP_setAt, 0), (44, mi_Layout_join, 1), (48, mi_Layout_hang, 1)]
  | 2 => [(3, mi_Arr_fill, 3), (9, mi_Arr_fill, 5), (28, mi_BP_setAt, 0)]
  | 3 => [(3, mi_Arr_fill, 3), (31, mi_BP_valueAt, 0), (35, mi_Wires_homeOf, 1), (41, mi_BP_cableOf, 0), (44, mi_BP_pairOf, 0), (47, mi_BP_setAt, 0), (60, mi_Mover_moveHome, 1), (64, mi_Mover_moveAside, 1), (67, mi_Mover_freePairs, 1), (71, mi_Mover_isAstray, 1), (75, mi_Mover_move, 1), (79, mi_Mover_houseOn, 1), (82, mi_Mover_lowestOf, 0)]
  | 4 => [(3, mi_Arr_fill, 3), (17, mi_Ledger_init, 2), (33, mi_Layout_init, 2), (58, mi_Sheet_init, 2), (63, mi_Arr_fill, 0), (69, mi_Ledger_dropTo, 1), (72, mi_Layout_clear, 1), (75, mi_Ledger_add, 1), (79, mi_BP_setAt, 0), (83, mi_Layout_copy, 1), (87, mi_Ledger_size, 1), (91, mi_Ledger_at, 1), (95, mi_Plan_pairsOf, 1), (99, mi_Ledger_has, 1), (103, mi_Plan_worlds, 1), (106, mi_Plan_hasBox, 1), (109, mi_BP_valueAt, 0), (113, mi_Plan_boxAt, 1), (116, mi_Layout_work, 1), (120, mi_Sheet_forgetAll, 1), (123, mi_Plan_hasPair, 1), (127, mi_Plan_lengthOf, 1), (130, mi_Sheet_forgetFits, 1), (133, mi_Arr_fill, 6), (138, mi_Arr_fill, 5), (141, mi_Plan_cableTo, 1), (147, mi_BP_cableOf, 0), (150, mi_Plan_isWantedByOther, 1)]
  | 5 => [(3, mi_Arr_fill, 3), (31, mi_BP_setAt, 0), (35, mi_BP_valueAt, 0), (39, mi_Sheet_fitAt, 1), (43, mi_Sheet_comesBefore, 0), (47, mi_Int_bitCount, 0)]
  | 6 => [(3, mi_Arr_fill, 3), (19, mi_BP_valueAt, 0), (23, mi_BP_setAt, 0)]
  | 7 => [(3, mi_Arr_fill, 3), (22, mi_Plan_clearText, 1), (27, mi_Reader_readBoxes, 1), (31, mi_Reader_comesMore, 1), (35, mi_Reader_readStatement, 1), (38, mi_Plan_settleText, 1), (41, mi_Reader_skipBlanks, 1), (44, mi_Tape_byteAt, 1), (50, mi_Reader_fail, 1), (54, mi_Reader_number, 1), (61, mi_Tape_size, 1), (65, mi_Reader_readCable, 1), (68, mi_Reader_readJoint, 1), (71, mi_Reader_readHouse, 1), (74, mi_Plan_cableTo, 1), (77, mi_Plan_addCable, 1), (85, mi_Ledger_size, 1), (88, mi_Plan_pairsOf, 1), (91, mi_Plan_meet, 1), (99, mi_BP_siteOf, 0), (102, mi_Layout_join, 1), (108, mi_Layout_hang, 1), (111, mi_Reader_digitAt, 1)]
  | 8 => [(3, mi_Arr_fill, 3), (28, mi_Arr_fill, 0), (34, mi_Wires_wireAt, 1), (40, mi_Wires_pieceAtEnd, 1), (43, mi_Tone_come, 1), (47, mi_BP_valueAt, 0), (51, mi_Tone_goAlong, 1), (55, mi_Tone_goAcross, 1), (58, mi_BP_setAt, 0), (62, mi_BP_cableOf, 0), (66, mi_Tone_comesTo, 1), (69, mi_BP_pairOf, 0), (72, mi_Wires_wireBehind, 1), (90, mi_Wires_pieceAt, 1), (99, mi_Ledger_size, 1), (105, mi_Plan_boxAt, 1)]
  | 9 => [(3, mi_Arr_fill, 3), (11, mi_Layout_init, 2), (45, mi_Plan_init, 2), (60, mi_Arr_fill, 0), (70, mi_Ledger_size, 1), (76, mi_Wires_befall, 1), (83, mi_Wires_layoutWithout, 1), (87, mi_Ledger_at, 1), (91, mi_BP_siteOf, 0), (94, mi_Wires_cross, 1), (98, mi_Wires_cut, 1), (101, mi_Wires_bringTogether, 1), (108, mi_Layout_copy, 1), (115, mi_Layout_work, 1), (118, mi_BP_valueAt, 0), (122, mi_BP_setAt, 0), (132, mi_Wires_pairsWith, 1), (138, mi_Plan_pairsOf, 1), (142, mi_Wires_wireAt, 1), (145, mi_BP_cableOf, 0), (148, mi_Plan_lengthOf, 1), (151, mi_Wires_toFirstTouch, 1), (155, mi_Wires_toFirstBreak, 1), (158, mi_Wires_wireBehind, 1), (161, mi_Wires_hangsBehind, 1), (168, mi_Wires_nearer, 0)]
  | 10 => [(3, mi_Arr_fill, 3), (11, mi_Tape_init, 2), (18, mi_Reader_init, 2), (33, mi_Bench_init, 2), (40, mi_Mover_init, 2), (45, mi_Plan_init, 2), (54, mi_BP_bytesIn, 0), (58, mi_Tape_size, 1), (62, mi_Tape_take, 1), (66, mi_Tape_cutTo, 1), (70, mi_Reader_readInto, 1), (74, mi_BP_planAt, 1), (78, mi_Plan_hasCable, 1), (88, mi_Ledger_at, 1), (94, mi_Plan_hasPair, 1), (108, mi_BP_siteOf, 0), (111, mi_BP_valueAt, 0), (118, mi_Plan_meet, 1), (121, mi_BP_isHouse, 0), (124, mi_Plan_addSlip, 1), (128, mi_Plan_canHaveTrouble, 1), (132, mi_Plan_addTrouble, 1), (139, mi_Ledger_size, 1), (140, mi_BP_planWith, 1), (144, mi_BP_isEnd, 0), (151, mi_Wires_lay, 1), (161, mi_Tone_send, 1), (167, mi_Tone_comesTo, 1), (170, mi_Wires_measure, 1), (176, mi_Wires_homeOf, 1), (179, mi_Bench_feedersOf, 1), (183, mi_Bench_servedHouses, 1), (187, mi_Bench_housesHearing, 1), (191, mi_Plan_cableTo, 1), (194, mi_Bench_openPairs, 1), (197, mi_Wires_hungPairs, 1), (203, mi_Ledger_add, 1), (206, mi_Ledger_has, 1), (209, mi_Bench_tell, 1), (213, mi_Plan_addReading, 1), (217, mi_Plan_dropReading, 1), (220, mi_Bench_findFits, 1), (233, mi_Sheet_fitAt, 1), (236, mi_Sheet_smallest, 1), (239, mi_Sheet_inAll, 1), (242, mi_Sheet_inSome, 1), (245, mi_Sheet_columnOf, 0), (248, mi_Bench_fill, 1), (251, mi_Bench_partFits, 1), (261, mi_Plan_hasBox, 1), (264, mi_Bench_columnsOfAll, 1), (268, mi_Bench_bestTest, 1), (272, mi_Plan_way, 1), (275, mi_Bench_breakAt, 1), (279, mi_Plan_setWanted, 1), (282, mi_Mover_work, 1), (289, mi_Mover_moveAt, 1), (301, mi_Plan_hasWorld, 1)]
  | 11 => [(3, mi_Arr_fill, 3), (149, mi_M_bytesIn, 0), (153, mi_M_put, 1), (160, mi_M_here, 1), (167, mi_M_fails, 1), (171, mi_M_look, 1), (174, mi_M_isDigit, 1), (181, mi_M_isIn, 0), (185, mi_M_comesTo, 1), (189, mi_M_number, 1), (192, mi_M_tell, 1), (199, mi_M_readCable, 1), (202, mi_M_readTold, 1), (205, mi_M_readPlan, 1), (208, mi_M_isPlan, 1), (211, mi_M_isCable, 1), (214, mi_M_isPair, 1), (223, mi_M_isSo, 1), (233, mi_M_isUndone, 1), (236, mi_M_unhang, 1), (239, mi_M_unjoin, 1), (248, mi_M_node, 0), (252, mi_M_cameAs, 1), (255, mi_M_longOf, 1), (258, mi_M_breaksTo, 1), (261, mi_M_nearNode, 1), (264, mi_M_farNode, 1), (267, mi_M_links, 1), (270, mi_M_nodeAt, 1), (273, mi_M_sound, 1), (276, mi_M_isWorld, 1), (279, mi_M_isEnd, 0), (282, mi_M_lay, 1), (286, mi_M_heardAt, 1), (290, mi_M_firstTouch, 1), (293, mi_M_firstBreak, 1), (296, mi_M_joinedAhead, 1), (299, mi_M_metresAt, 1), (302, mi_M_isNumberOfHouse, 0), (305, mi_M_hangsAt, 1), (310, mi_M_feeds, 1), (314, mi_Lng_bitCount, 0), (320, mi_M_would, 1), (323, mi_M_isTest, 1), (326, mi_M_wouldIn, 1), (330, mi_M_fits, 1), (333, mi_Int_bitCount, 0), (343, mi_Arr_fill, 5), (348, mi_M_layFits, 1), (351, mi_M_layParts, 1), (354, mi_M_up, 1), (357, mi_M_upTo, 1), (360, mi_M_walkOf, 1), (363, mi_M_boxOf, 1), (366, mi_Arr_fill, 7), (372, mi_M_pairOf, 1), (375, mi_M_isAstray, 1), (378, mi_M_isFree, 1), (381, mi_M_goes, 1), (385, mi_M_goesHome, 1), (388, mi_M_givesWay, 1)]
  | 12 => [(7, mi_BP_cable, 1), (15, mi_BP_init, 2), (18, mi_M_init, 2), (19, mi_BP_feed, 1), (23, mi_M_feed, 1), (24, mi_BP_end, 1), (28, mi_M_end, 1), (29, mi_BP_fault, 1), (33, mi_M_fault, 1), (34, mi_BP_plan, 1), (37, mi_M_plan, 1), (38, mi_Law_cable, 8), (43, mi_M_cable, 1), (44, mi_M_thrown, 1), (47, mi_BP_joint, 1), (50, mi_M_joint, 1), (51, mi_BP_house, 1), (55, mi_M_house, 1), (56, mi_BP_slip, 1), (60, mi_M_slip, 1), (61, mi_BP_trouble, 1), (64, mi_M_trouble, 1), (65, mi_BP_troubles, 1), (69, mi_M_troubles, 1), (70, mi_BP_heard, 1), (74, mi_M_heard, 1), (75, mi_BP_metres, 1), (79, mi_M_metres, 1), (80, mi_BP_fed, 1), (84, mi_M_fed, 1), (85, mi_BP_served, 1), (89, mi_M_served, 1), (90, mi_BP_neighbours, 1), (94, mi_M_neighbours, 1), (95, mi_BP_spare, 1), (98, mi_M_spare, 1), (99, mi_BP_test, 1), (103, mi_M_test, 1), (104, mi_BP_tells, 1), (108, mi_M_tells, 1), (109, mi_BP_read, 1), (112, mi_M_read, 1), (113, mi_BP_unread, 1), (116, mi_M_unread, 1), (117, mi_BP_fitting, 1), (120, mi_M_fitting, 1), (121, mi_BP_fewest, 1), (124, mi_M_fewest, 1), (125, mi_BP_sure, 1), (128, mi_M_sure, 1), (129, mi_BP_parts, 1), (132, mi_M_parts, 1), (133, mi_BP_next, 1), (137, mi_M_next, 1), (138, mi_BP_walk, 1), (141, mi_M_walk, 1), (142, mi_BP_distance, 1), (145, mi_M_distance, 1), (146, mi_BP_want, 1), (150, mi_M_want, 1), (151, mi_BP_moves, 1), (155, mi_M_moves, 1), (156, mi_BP_count, 1), (159, mi_M_count, 1)]
  | _ => []
set_option maxRecDepth 100000 in
theorem pt_ml_0 : ∀ e ∈ pt_ml 0, pm_OM pt_cl pt_Ts tables_1 pt_cn (pt_cn 0) e.1 e.2.1 e.2.2 := List.forall_mem_cons.mpr ⟨lk_0_3, List.forall_mem_cons.mpr ⟨lk_0_11, List.forall_mem_cons.mpr ⟨lk_0_20, List.forall_mem_cons.mpr ⟨lk_0_40, List.forall_mem_cons.mpr ⟨lk_0_48, List.forall_mem_cons.mpr ⟨lk_0_52, List.forall_mem_cons.mpr ⟨lk_0_56, List.forall_mem_cons.mpr ⟨lk_0_60, List.forall_mem_cons.mpr ⟨lk_0_66, List.forall_mem_cons.mpr ⟨lk_0_70, List.forall_mem_cons.mpr ⟨lk_0_73, List.forall_mem_cons.mpr ⟨lk_0_78, List.forall_mem_cons.mpr ⟨lk_0_82, List.forall_mem_cons.mpr ⟨lk_0_89, List.forall_mem_cons.mpr ⟨lk_0_94, List.forall_mem_cons.mpr ⟨lk_0_98, List.forall_mem_cons.mpr ⟨lk_0_111, List.forall_mem_cons.mpr ⟨lk_0_115, List.forall_mem_cons.mpr ⟨lk_0_122, List.forall_mem_cons.mpr ⟨lk_0_126, List.forall_mem_cons.mpr ⟨lk_0_130, List.forall_mem_cons.mpr ⟨lk_0_137, List.forall_mem_cons.mpr ⟨lk_0_140, List.forall_mem_cons.mpr ⟨lk_0_144, List.forall_mem_cons.mpr ⟨lk_0_148, List.forall_mem_cons.mpr ⟨lk_0_154, List.forall_mem_cons.mpr ⟨lk_0_157, List.forall_mem_cons.mpr ⟨lk_0_161, List.forall_mem_cons.mpr ⟨lk_0_165, List.forall_mem_cons.mpr ⟨lk_0_168, List.forall_mem_cons.mpr ⟨lk_0_172, List.forall_mem_cons.mpr ⟨lk_0_176, List.forall_mem_cons.mpr ⟨lk_0_181, List.forall_mem_cons.mpr ⟨lk_0_184, List.forall_mem_cons.mpr ⟨lk_0_187, List.forall_mem_cons.mpr ⟨lk_0_191, List.forall_mem_cons.mpr ⟨lk_0_194, List.forall_mem_cons.mpr ⟨lk_0_197, List.forall_mem_cons.mpr ⟨lk_0_201, List.forall_mem_cons.mpr ⟨lk_0_205, fun _ h => absurd h List.not_mem_nil⟩⟩⟩⟩⟩⟩⟩⟩⟩⟩⟩⟩⟩⟩⟩⟩⟩⟩⟩⟩⟩⟩⟩⟩⟩⟩⟩⟩⟩⟩⟩⟩⟩⟩⟩⟩⟩⟩⟩⟩
set_option maxRecDepth 100000 in
theorem pt_ml_1 : ∀ e ∈ pt_ml 1, pm_OM pt_cl pt_Ts tables_1 pt_cn (pt_cn 1) e.1 e.2.1 e.2.2 := List.forall_mem_cons.mpr ⟨lk_1_3, List.forall_mem_cons.mpr ⟨lk_1_24, List.forall_mem_cons.mpr ⟨lk_1_30, List.forall_mem_cons.mpr ⟨lk_1_36, List.forall_mem_cons.mpr ⟨lk_1_40, List.forall_mem_cons.mpr ⟨lk_1_44, List.forall_mem_cons.mpr ⟨lk_1_48, fun _ h => absurd h List.not_mem_nil⟩⟩⟩⟩⟩⟩⟩
set_option maxRecDepth 100000 in
theorem pt_ml_2 : ∀ e ∈ pt_ml 2, pm_OM pt_cl pt_Ts tables_1 pt_cn (pt_cn 2) e.1 e.2.1 e.2.2 := List.forall_mem_cons.mpr ⟨lk_2_3, List.forall_mem_cons.mpr ⟨lk_2_9, List.forall_mem_cons.mpr ⟨lk_2_28, fun _ h => absurd h List.not_mem_nil⟩⟩⟩
set_option maxRecDepth 100000 in
theorem pt_ml_3 : ∀ e ∈ pt_ml 3, pm_OM pt_cl pt_Ts tables_1 pt_cn (pt_cn 3) e.1 e.2.1 e.2.2 := List.forall_mem_cons.mpr ⟨lk_3_3, List.forall_mem_cons.mpr ⟨lk_3_31, List.forall_mem_cons.mpr ⟨lk_3_35, List.forall_mem_cons.mpr ⟨lk_3_41, List.forall_mem_cons.mpr ⟨lk_3_44, List.forall_mem_cons.mpr ⟨lk_3_47, List.forall_mem_cons.mpr ⟨lk_3_60, List.forall_mem_cons.mpr ⟨lk_3_64, List.forall_mem_cons.mpr ⟨lk_3_67, List.forall_mem_cons.mpr ⟨lk_3_71, List.forall_mem_cons.mpr ⟨lk_3_75, List.forall_mem_cons.mpr ⟨lk_3_79, List.forall_mem_cons.mpr ⟨lk_3_82, fun _ h => absurd h List.not_mem_nil⟩⟩⟩⟩⟩⟩⟩⟩⟩⟩⟩⟩⟩
set_option maxRecDepth 100000 in
theorem pt_ml_4 : ∀ e ∈ pt_ml 4, pm_OM pt_cl pt_Ts tables_1 pt_cn (pt_cn 4) e.1 e.2.1 e.2.2 := List.forall_mem_cons.mpr ⟨lk_4_3, List.forall_mem_cons.mpr ⟨lk_4_17, List.forall_mem_cons.mpr ⟨lk_4_33, List.forall_mem_cons.mpr ⟨lk_4_58, List.forall_mem_cons.mpr ⟨lk_4_63, List.forall_mem_cons.mpr ⟨lk_4_69, List.forall_mem_cons.mpr ⟨lk_4_72, List.forall_mem_cons.mpr ⟨lk_4_75, List.forall_mem_cons.mpr ⟨lk_4_79, List.forall_mem_cons.mpr ⟨lk_4_83, List.forall_mem_cons.mpr ⟨lk_4_87, List.forall_mem_cons.mpr ⟨lk_4_91, List.forall_mem_cons.mpr ⟨lk_4_95, List.forall_mem_cons.mpr ⟨lk_4_99, List.forall_mem_cons.mpr ⟨lk_4_103, List.forall_mem_cons.mpr ⟨lk_4_106, List.forall_mem_cons.mpr ⟨lk_4_109, List.forall_mem_cons.mpr ⟨lk_4_113, List.forall_mem_cons.mpr ⟨lk_4_116, List.forall_mem_cons.mpr ⟨lk_4_120, List.forall_mem_cons.mpr ⟨lk_4_123, List.forall_mem_cons.mpr ⟨lk_4_127, List.forall_mem_cons.mpr ⟨lk_4_130, List.forall_mem_cons.mpr ⟨lk_4_133, List.forall_mem_cons.mpr ⟨lk_4_138, List.forall_mem_cons.mpr ⟨lk_4_141, List.forall_mem_cons.mpr ⟨lk_4_147, List.forall_mem_cons.mpr ⟨lk_4_150, fun _ h => absurd h List.not_mem_nil⟩⟩⟩⟩⟩⟩⟩⟩⟩⟩⟩⟩⟩⟩⟩⟩⟩⟩⟩⟩⟩⟩⟩⟩⟩⟩⟩⟩
set_option maxRecDepth 100000 in
theorem pt_ml_5 : ∀ e ∈ pt_ml 5, pm_OM pt_cl pt_Ts tables_1 pt_cn (pt_cn 5) e.1 e.2.1 e.2.2 := List.forall_mem_cons.mpr ⟨lk_5_3, List.forall_mem_cons.mpr ⟨lk_5_31, List.forall_mem_cons.mpr ⟨lk_5_35, List.forall_mem_cons.mpr ⟨lk_5_39, List.forall_mem_cons.mpr ⟨lk_5_43, List.forall_mem_cons.mpr ⟨lk_5_47, fun _ h => absurd h List.not_mem_nil⟩⟩⟩⟩⟩⟩
set_option maxRecDepth 100000 in
theorem pt_ml_6 : ∀ e ∈ pt_ml 6, pm_OM pt_cl pt_Ts tables_1 pt_cn (pt_cn 6) e.1 e.2.1 e.2.2 := List.forall_mem_cons.mpr ⟨lk_6_3, List.forall_mem_cons.mpr ⟨lk_6_19, List.forall_mem_cons.mpr ⟨lk_6_23, fun _ h => absurd h List.not_mem_nil⟩⟩⟩
set_option maxRecDepth 100000 in
theorem pt_ml_7 : ∀ e ∈ pt_ml 7, pm_OM pt_cl pt_Ts tables_1 pt_cn (pt_cn 7) e.1 e.2.1 e.2.2 := List.forall_mem_cons.mpr ⟨lk_7_3, List.forall_mem_cons.mpr ⟨lk_7_22, List.forall_mem_cons.mpr ⟨lk_7_27, List.forall_mem_cons.mpr ⟨lk_7_31, List.forall_mem_cons.mpr ⟨lk_7_35, List.forall_mem_cons.mpr ⟨lk_7_38, List.forall_mem_cons.mpr ⟨lk_7_41, List.forall_mem_cons.mpr ⟨lk_7_44, List.forall_mem_cons.mpr ⟨lk_7_50, List.forall_mem_cons.mpr ⟨lk_7_54, List.forall_mem_cons.mpr ⟨lk_7_61, List.forall_mem_cons.mpr ⟨lk_7_65, List.forall_mem_cons.mpr ⟨lk_7_68, List.forall_mem_cons.mpr ⟨lk_7_71, List.forall_mem_cons.mpr ⟨lk_7_74, List.forall_mem_cons.mpr ⟨lk_7_77, List.forall_mem_cons.mpr ⟨lk_7_85, List.forall_mem_cons.mpr ⟨lk_7_88, List.forall_mem_cons.mpr ⟨lk_7_91, List.forall_mem_cons.mpr ⟨lk_7_99, List.forall_mem_cons.mpr ⟨lk_7_102, List.forall_mem_cons.mpr ⟨lk_7_108, List.forall_mem_cons.mpr ⟨lk_7_111, fun _ h => absurd h List.not_mem_nil⟩⟩⟩⟩⟩⟩⟩⟩⟩⟩⟩⟩⟩⟩⟩⟩⟩⟩⟩⟩⟩⟩⟩
set_option maxRecDepth 100000 in
theorem pt_ml_8 : ∀ e ∈ pt_ml 8, pm_OM pt_cl pt_Ts tables_1 pt_cn (pt_cn 8) e.1 e.2.1 e.2.2 := List.forall_mem_cons.mpr ⟨lk_8_3, List.forall_mem_cons.mpr ⟨lk_8_28, List.forall_mem_cons.mpr ⟨lk_8_34, List.forall_mem_cons.mpr ⟨lk_8_40, List.forall_mem_cons.mpr ⟨lk_8_43, List.forall_mem_cons.mpr ⟨lk_8_47, List.forall_mem_cons.mpr ⟨lk_8_51, List.forall_mem_cons.mpr ⟨lk_8_55, List.forall_mem_cons.mpr ⟨lk_8_58, List.forall_mem_cons.mpr ⟨lk_8_62, List.forall_mem_cons.mpr ⟨lk_8_66, List.forall_mem_cons.mpr ⟨lk_8_69, List.forall_mem_cons.mpr ⟨lk_8_72, List.forall_mem_cons.mpr ⟨lk_8_90, List.forall_mem_cons.mpr ⟨lk_8_99, List.forall_mem_cons.mpr ⟨lk_8_105, fun _ h => absurd h List.not_mem_nil⟩⟩⟩⟩⟩⟩⟩⟩⟩⟩⟩⟩⟩⟩⟩⟩
set_option maxRecDepth 100000 in
theorem pt_ml_9 : ∀ e ∈ pt_ml 9, pm_OM pt_cl pt_Ts tables_1 pt_cn (pt_cn 9) e.1 e.2.1 e.2.2 := List.forall_mem_cons.mpr ⟨lk_9_3, List.forall_mem_cons.mpr ⟨lk_9_11, List.forall_mem_cons.mpr ⟨lk_9_45, List.forall_mem_cons.mpr ⟨lk_9_60, List.forall_mem_cons.mpr ⟨lk_9_70, List.forall_mem_cons.mpr ⟨lk_9_76, List.forall_mem_cons.mpr ⟨lk_9_83, List.forall_mem_cons.mpr ⟨lk_9_87, List.forall_mem_cons.mpr ⟨lk_9_91, List.forall_mem_cons.mpr ⟨lk_9_94, List.forall_mem_cons.mpr ⟨lk_9_98, List.forall_mem_cons.mpr ⟨lk_9_101, List.forall_mem_cons.mpr ⟨lk_9_108, List.forall_mem_cons.mpr ⟨lk_9_115, List.forall_mem_cons.mpr ⟨lk_9_118, List.forall_mem_cons.mpr ⟨lk_9_122, List.forall_mem_cons.mpr ⟨lk_9_132, List.forall_mem_cons.mpr ⟨lk_9_138, List.forall_mem_cons.mpr ⟨lk_9_142, List.forall_mem_cons.mpr ⟨lk_9_145, List.forall_mem_cons.mpr ⟨lk_9_148, List.forall_mem_cons.mpr ⟨lk_9_151, List.forall_mem_cons.mpr ⟨lk_9_155, List.forall_mem_cons.mpr ⟨lk_9_158, List.forall_mem_cons.mpr ⟨lk_9_161, List.forall_mem_cons.mpr ⟨lk_9_168, fun _ h => absurd h List.not_mem_nil⟩⟩⟩⟩⟩⟩⟩⟩⟩⟩⟩⟩⟩⟩⟩⟩⟩⟩⟩⟩⟩⟩⟩⟩⟩⟩
set_option maxRecDepth 100000 in
theorem pt_ml_10 : ∀ e ∈ pt_ml 10, pm_OM pt_cl pt_Ts tables_1 pt_cn (pt_cn 10) e.1 e.2.1 e.2.2 := List.forall_mem_cons.mpr ⟨lk_10_3, List.forall_mem_cons.mpr ⟨lk_10_11, List.forall_mem_cons.mpr ⟨lk_10_18, List.forall_mem_cons.mpr ⟨lk_10_33, List.forall_mem_cons.mpr ⟨lk_10_40, List.forall_mem_cons.mpr ⟨lk_10_45, List.forall_mem_cons.mpr ⟨lk_10_54, List.forall_mem_cons.mpr ⟨lk_10_58, List.forall_mem_cons.mpr ⟨lk_10_62, List.forall_mem_cons.mpr ⟨lk_10_66, List.forall_mem_cons.mpr ⟨lk_10_70, List.forall_mem_cons.mpr ⟨lk_10_74, List.forall_mem_cons.mpr ⟨lk_10_78, List.forall_mem_cons.mpr ⟨lk_10_88, List.forall_mem_cons.mpr ⟨lk_10_94, List.forall_mem_cons.mpr ⟨lk_10_108, List.forall_mem_cons.mpr ⟨lk_10_111, List.forall_mem_cons.mpr ⟨lk_10_118, List.forall_mem_cons.mpr ⟨lk_10_121, List.forall_mem_cons.mpr ⟨lk_10_124, List.forall_mem_cons.mpr ⟨lk_10_128, List.forall_mem_cons.mpr ⟨lk_10_132, List.forall_mem_cons.mpr ⟨lk_10_139, List.forall_mem_cons.mpr ⟨lk_10_140, List.forall_mem_cons.mpr ⟨lk_10_144, List.forall_mem_cons.mpr ⟨lk_10_151, List.forall_mem_cons.mpr ⟨lk_10_161, List.forall_mem_cons.mpr ⟨lk_10_167, List.forall_mem_cons.mpr ⟨lk_10_170, List.forall_mem_cons.mpr ⟨lk_10_176, List.forall_mem_cons.mpr ⟨lk_10_179, List.forall_mem_cons.mpr ⟨lk_10_183, List.forall_mem_cons.mpr ⟨lk_10_187, List.forall_mem_cons.mpr ⟨lk_10_191, List.forall_mem_cons.mpr ⟨lk_10_194, List.forall_mem_cons.mpr ⟨lk_10_197, List.forall_mem_cons.mpr ⟨lk_10_203, List.forall_mem_cons.mpr ⟨lk_10_206, List.forall_mem_cons.mpr ⟨lk_10_209, List.forall_mem_cons.mpr ⟨lk_10_213, List.forall_mem_cons.mpr ⟨lk_10_217, List.forall_mem_cons.mpr ⟨lk_10_220, List.forall_mem_cons.mpr ⟨lk_10_233, List.forall_mem_cons.mpr ⟨lk_10_236, List.forall_mem_cons.mpr ⟨lk_10_239, List.forall_mem_cons.mpr ⟨lk_10_242, List.forall_mem_cons.mpr ⟨lk_10_245, List.forall_mem_cons.mpr ⟨lk_10_248, List.forall_mem_cons.mpr ⟨lk_10_251, List.forall_mem_cons.mpr ⟨lk_10_261, List.forall_mem_cons.mpr ⟨lk_10_264, List.forall_mem_cons.mpr ⟨lk_10_268, List.forall_mem_cons.mpr ⟨lk_10_272, List.forall_mem_cons.mpr ⟨lk_10_275, List.forall_mem_cons.mpr ⟨lk_10_279, List.forall_mem_cons.mpr ⟨lk_10_282, List.forall_mem_cons.mpr ⟨lk_10_289, List.forall_mem_cons.mpr ⟨lk_10_301, fun _ h => absurd h List.not_mem_nil⟩⟩⟩⟩⟩⟩⟩⟩⟩⟩⟩⟩⟩⟩⟩⟩⟩⟩⟩⟩⟩⟩⟩⟩⟩⟩⟩⟩⟩⟩⟩⟩⟩⟩⟩⟩⟩⟩⟩⟩⟩⟩⟩⟩⟩⟩⟩⟩⟩⟩⟩⟩⟩⟩⟩⟩⟩⟩
set_option maxRecDepth 100000 in
theorem pt_ml_11 : ∀ e ∈ pt_ml 11, pm_OM pt_cl pt_Ts tables_1 pt_cn (pt_cn 11) e.1 e.2.1 e.2.2 := List.forall_mem_cons.mpr ⟨lk_11_3, List.forall_mem_cons.mpr ⟨lk_11_149, List.forall_mem_cons.mpr ⟨lk_11_153, List.forall_mem_cons.mpr ⟨lk_11_160, List.forall_mem_cons.mpr ⟨lk_11_167, List.forall_mem_cons.mpr ⟨lk_11_171, List.forall_mem_cons.mpr ⟨lk_11_174, List.forall_mem_cons.mpr ⟨lk_11_181, List.forall_mem_cons.mpr ⟨lk_11_185, List.forall_mem_cons.mpr ⟨lk_11_189, List.forall_mem_cons.mpr ⟨lk_11_192, List.forall_mem_cons.mpr ⟨lk_11_199, List.forall_mem_cons.mpr ⟨lk_11_202, List.forall_mem_cons.mpr ⟨lk_11_205, List.forall_mem_cons.mpr ⟨lk_11_208, List.forall_mem_cons.mpr ⟨lk_11_211, List.forall_mem_cons.mpr ⟨lk_11_214, List.forall_mem_cons.mpr ⟨lk_11_223, List.forall_mem_cons.mpr ⟨lk_11_233, List.forall_mem_cons.mpr ⟨lk_11_236, List.forall_mem_cons.mpr ⟨lk_11_239, List.forall_mem_cons.mpr ⟨lk_11_248, List.forall_mem_cons.mpr ⟨lk_11_252, List.forall_mem_cons.mpr ⟨lk_11_255, List.forall_mem_cons.mpr ⟨lk_11_258, List.forall_mem_cons.mpr ⟨lk_11_261, List.forall_mem_cons.mpr ⟨lk_11_264, List.forall_mem_cons.mpr ⟨lk_11_267, List.forall_mem_cons.mpr ⟨lk_11_270, List.forall_mem_cons.mpr ⟨lk_11_273, List.forall_mem_cons.mpr ⟨lk_11_276, List.forall_mem_cons.mpr ⟨lk_11_279, List.forall_mem_cons.mpr ⟨lk_11_282, List.forall_mem_cons.mpr ⟨lk_11_286, List.forall_mem_cons.mpr ⟨lk_11_290, List.forall_mem_cons.mpr ⟨lk_11_293, List.forall_mem_cons.mpr ⟨lk_11_296, List.forall_mem_cons.mpr ⟨lk_11_299, List.forall_mem_cons.mpr ⟨lk_11_302, List.forall_mem_cons.mpr ⟨lk_11_305, List.forall_mem_cons.mpr ⟨lk_11_310, List.forall_mem_cons.mpr ⟨lk_11_314, List.forall_mem_cons.mpr ⟨lk_11_320, List.forall_mem_cons.mpr ⟨lk_11_323, List.forall_mem_cons.mpr ⟨lk_11_326, List.forall_mem_cons.mpr ⟨lk_11_330, List.forall_mem_cons.mpr ⟨lk_11_333, List.forall_mem_cons.mpr ⟨lk_11_343, List.forall_mem_cons.mpr ⟨lk_11_348, List.forall_mem_cons.mpr ⟨lk_11_351, List.forall_mem_cons.mpr ⟨lk_11_354, List.forall_mem_cons.mpr ⟨lk_11_357, List.forall_mem_cons.mpr ⟨lk_11_360, List.forall_mem_cons.mpr ⟨lk_11_363, List.forall_mem_cons.mpr ⟨lk_11_366, List.forall_mem_cons.mpr ⟨lk_11_372, List.forall_mem_cons.mpr ⟨lk_11_375, List.forall_mem_cons.mpr ⟨lk_11_378, List.forall_mem_cons.mpr ⟨lk_11_381, List.forall_mem_cons.mpr ⟨lk_11_385, List.forall_mem_cons.mpr ⟨lk_11_388, fun _ h => absurd h List.not_mem_nil⟩⟩⟩⟩⟩⟩⟩⟩⟩⟩⟩⟩⟩⟩⟩⟩⟩⟩⟩⟩⟩⟩⟩⟩⟩⟩⟩⟩⟩⟩⟩⟩⟩⟩⟩⟩⟩⟩⟩⟩⟩⟩⟩⟩⟩⟩⟩⟩⟩⟩⟩⟩⟩⟩⟩⟩⟩⟩⟩⟩⟩
set_option maxRecDepth 100000 in
theorem pt_ml_12 : ∀ e ∈ pt_ml 12, pm_OM pt_cl pt_Ts tables_1 pt_cn (pt_cn 12) e.1 e.2.1 e.2.2 := List.forall_mem_cons.mpr ⟨lk_12_7, List.forall_mem_cons.mpr ⟨lk_12_15, List.forall_mem_cons.mpr ⟨lk_12_18, List.forall_mem_cons.mpr ⟨lk_12_19, List.forall_mem_cons.mpr ⟨lk_12_23, List.forall_mem_cons.mpr ⟨lk_12_24, List.forall_mem_cons.mpr ⟨lk_12_28, List.forall_mem_cons.mpr ⟨lk_12_29, List.forall_mem_cons.mpr ⟨lk_12_33, List.forall_mem_cons.mpr ⟨lk_12_34, List.forall_mem_cons.mpr ⟨lk_12_37, List.forall_mem_cons.mpr ⟨lk_12_38, List.forall_mem_cons.mpr ⟨lk_12_43, List.forall_mem_cons.mpr ⟨lk_12_44, List.forall_mem_cons.mpr ⟨lk_12_47, List.forall_mem_cons.mpr ⟨lk_12_50, List.forall_mem_cons.mpr ⟨lk_12_51, List.forall_mem_cons.mpr ⟨lk_12_55, List.forall_mem_cons.mpr ⟨lk_12_56, List.forall_mem_cons.mpr ⟨lk_12_60, List.forall_mem_cons.mpr ⟨lk_12_61, List.forall_mem_cons.mpr ⟨lk_12_64, List.forall_mem_cons.mpr ⟨lk_12_65, List.forall_mem_cons.mpr ⟨lk_12_69, List.forall_mem_cons.mpr ⟨lk_12_70, List.forall_mem_cons.mpr ⟨lk_12_74, List.forall_mem_cons.mpr ⟨lk_12_75, List.forall_mem_cons.mpr ⟨lk_12_79, List.forall_mem_cons.mpr ⟨lk_12_80, List.forall_mem_cons.mpr ⟨lk_12_84, List.forall_mem_cons.mpr ⟨lk_12_85, List.forall_mem_cons.mpr ⟨lk_12_89, List.forall_mem_cons.mpr ⟨lk_12_90, List.forall_mem_cons.mpr ⟨lk_12_94, List.forall_mem_cons.mpr ⟨lk_12_95, List.forall_mem_cons.mpr ⟨lk_12_98, List.forall_mem_cons.mpr ⟨lk_12_99, List.forall_mem_cons.mpr ⟨lk_12_103, List.forall_mem_cons.mpr ⟨lk_12_104, List.forall_mem_cons.mpr ⟨lk_12_108, List.forall_mem_cons.mpr ⟨lk_12_109, List.forall_mem_cons.mpr ⟨lk_12_112, List.forall_mem_cons.mpr ⟨lk_12_113, List.forall_mem_cons.mpr ⟨lk_12_116, List.forall_mem_cons.mpr ⟨lk_12_117, List.forall_mem_cons.mpr ⟨lk_12_120, List.forall_mem_cons.mpr ⟨lk_12_121, List.forall_mem_cons.mpr ⟨lk_12_124, List.forall_mem_cons.mpr ⟨lk_12_125, List.forall_mem_cons.mpr ⟨lk_12_128, List.forall_mem_cons.mpr ⟨lk_12_129, List.forall_mem_cons.mpr ⟨lk_12_132, List.forall_mem_cons.mpr ⟨lk_12_133, List.forall_mem_cons.mpr ⟨lk_12_137, List.forall_mem_cons.mpr ⟨lk_12_138, List.forall_mem_cons.mpr ⟨lk_12_141, List.forall_mem_cons.mpr ⟨lk_12_142, List.forall_mem_cons.mpr ⟨lk_12_145, List.forall_mem_cons.mpr ⟨lk_12_146, List.forall_mem_cons.mpr ⟨lk_12_150, List.forall_mem_cons.mpr ⟨lk_12_151, List.forall_mem_cons.mpr ⟨lk_12_155, List.forall_mem_cons.mpr ⟨lk_12_156, List.forall_mem_cons.mpr ⟨lk_12_159, fun _ h => absurd h List.not_mem_nil⟩⟩⟩⟩⟩⟩⟩⟩⟩⟩⟩⟩⟩⟩⟩⟩⟩⟩⟩⟩⟩⟩⟩⟩⟩⟩⟩⟩⟩⟩⟩⟩⟩⟩⟩⟩⟩⟩⟩⟩⟩⟩⟩⟩⟩⟩⟩⟩⟩⟩⟩⟩⟩⟩⟩⟩⟩⟩⟩⟩⟩⟩⟩⟩
theorem pt_ml_ok (co : Nat) : ∀ e ∈ pt_ml co, pm_OM pt_cl pt_Ts tables_1 pt_cn (pt_cn co) e.1 e.2.1 e.2.2 := by
  unfold pt_ml
  split
  · exact pt_ml_0
  · exact pt_ml_1
  · exact pt_ml_2
  · exact pt_ml_3
  · exact pt_ml_4
  · exact pt_ml_5
  · exact pt_ml_6
  · exact pt_ml_7
  · exact pt_ml_8
  · exact pt_ml_9
  · exact pt_ml_10
  · exact pt_ml_11
  · exact pt_ml_12
  · exact fun _ h => absurd h List.not_mem_nil
