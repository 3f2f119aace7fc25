set_option maxRecDepth 100000 in
theorem wa_mi_BP_init : Cond.instanceMethod (pi_y mi_BP_init) ∈ pt_Ts := pt_w_ok (i := 25) (by decide +kernel)
set_option maxRecDepth 100000 in
theorem wa_mi_Tape_init : Cond.instanceMethod (pi_y mi_Tape_init) ∈ pt_Ts := pt_w_ok (i := 33) (by decide +kernel)
set_option maxRecDepth 100000 in
theorem wa_mi_Reader_init : Cond.instanceMethod (pi_y mi_Reader_init) ∈ pt_Ts := pt_w_ok (i := 47) (by decide +kernel)
set_option maxRecDepth 100000 in
theorem wa_mi_Bench_init : Cond.instanceMethod (pi_y mi_Bench_init) ∈ pt_Ts := pt_w_ok (i := 65) (by decide +kernel)
set_option maxRecDepth 100000 in
theorem wa_mi_Wires_init : Cond.instanceMethod (pi_y mi_Wires_init) ∈ pt_Ts := pt_w_ok (i := 71) (by decide +kernel)
set_option maxRecDepth 100000 in
theorem wa_mi_Layout_init : Cond.instanceMethod (pi_y mi_Layout_init) ∈ pt_Ts := pt_w_ok (i := 77) (by decide +kernel)
set_option maxRecDepth 100000 in
theorem wa_mi_Arr_fill : Cond.static (pi_y mi_Arr_fill) ∈ pt_Ts := pt_w_ok (i := 81) (by decide +kernel)
set_option maxRecDepth 100000 in
theorem wa_mi_Plan_init : Cond.instanceMethod (pi_y mi_Plan_init) ∈ pt_Ts := pt_w_ok (i := 106) (by decide +kernel)
set_option maxRecDepth 100000 in
theorem wa_mi_Ledger_init : Cond.instanceMethod (pi_y mi_Ledger_init) ∈ pt_Ts := pt_w_ok (i := 112) (by decide +kernel)
set_option maxRecDepth 100000 in
theorem wa_mi_Sheet_init : Cond.instanceMethod (pi_y mi_Sheet_init) ∈ pt_Ts := pt_w_ok (i := 133) (by decide +kernel)
set_option maxRecDepth 100000 in
theorem wa_mi_Tone_init : Cond.instanceMethod (pi_y mi_Tone_init) ∈ pt_Ts := pt_w_ok (i := 267) (by decide +kernel)
set_option maxRecDepth 100000 in
theorem wa_mi_Mover_init : Cond.instanceMethod (pi_y mi_Mover_init) ∈ pt_Ts := pt_w_ok (i := 313) (by decide +kernel)
set_option maxRecDepth 100000 in
theorem wa_mi_BP_feed : Cond.instanceMethod (pi_y mi_BP_feed) ∈ pt_Ts := pt_w_ok (i := 360) (by decide +kernel)
set_option maxRecDepth 100000 in
theorem wb_mi_BP_feed : Cond.selects (pi_y mi_BP_feed).cls (pi_y mi_BP_feed) (pi_y mi_BP_feed) ∈ pt_Ts := pt_w_ok (i := 361) (by decide +kernel)
set_option maxRecDepth 100000 in
theorem wa_mi_BP_bytesIn : Cond.static (pi_y mi_BP_bytesIn) ∈ pt_Ts := pt_w_ok (i := 364) (by decide +kernel)
set_option maxRecDepth 100000 in
theorem wa_mi_Tape_size : Cond.instanceMethod (pi_y mi_Tape_size) ∈ pt_Ts := pt_w_ok (i := 367) (by decide +kernel)
set_option maxRecDepth 100000 in
theorem wb_mi_Tape_size : Cond.selects (pi_y mi_Tape_size).cls (pi_y mi_Tape_size) (pi_y mi_Tape_size) ∈ pt_Ts := pt_w_ok (i := 368) (by decide +kernel)
set_option maxRecDepth 100000 in
theorem wa_mi_Tape_take : Cond.instanceMethod (pi_y mi_Tape_take) ∈ pt_Ts := pt_w_ok (i := 371) (by decide +kernel)
set_option maxRecDepth 100000 in
theorem wb_mi_Tape_take : Cond.selects (pi_y mi_Tape_take).cls (pi_y mi_Tape_take) (pi_y mi_Tape_take) ∈ pt_Ts := pt_w_ok (i := 372) (by decide +kernel)
set_option maxRecDepth 100000 in
theorem wa_mi_BP_setAt : Cond.static (pi_y mi_BP_setAt) ∈ pt_Ts := pt_w_ok (i := 375) (by decide +kernel)
set_option maxRecDepth 100000 in
theorem wa_mi_BP_end : Cond.instanceMethod (pi_y mi_BP_end) ∈ pt_Ts := pt_w_ok (i := 378) (by decide +kernel)
set_option maxRecDepth 100000 in
theorem wb_mi_BP_end : Cond.selects (pi_y mi_BP_end).cls (pi_y mi_BP_end) (pi_y mi_BP_end) ∈ pt_Ts := pt_w_ok (i := 379) (by decide +kernel)
set_option maxRecDepth 100000 in
theorem wa_mi_Tape_cutTo : Cond.instanceMethod (pi_y mi_Tape_cutTo) ∈ pt_Ts := pt_w_ok (i := 382) (by decide +kernel)
set_option maxRecDepth 100000 in
theorem wb_mi_Tape_cutTo : Cond.selects (pi_y mi_Tape_cutTo).cls (pi_y mi_Tape_cutTo) (pi_y mi_Tape_cutTo) ∈ pt_Ts := pt_w_ok (i := 383) (by decide +kernel)
set_option maxRecDepth 100000 in
theorem wa_mi_BP_fault : Cond.instanceMethod (pi_y mi_BP_fault) ∈ pt_Ts := pt_w_ok (i := 386) (by decide +kernel)
set_option maxRecDepth 100000 in
theorem wb_mi_BP_fault : Cond.selects (pi_y mi_BP_fault).cls (pi_y mi_BP_fault) (pi_y mi_BP_fault) ∈ pt_Ts := pt_w_ok (i := 387) (by decide +kernel)
set_option maxRecDepth 100000 in
theorem wa_mi_Reader_readInto : Cond.instanceMethod (pi_y mi_Reader_readInto) ∈ pt_Ts := pt_w_ok (i := 390) (by decide +kernel)
set_option maxRecDepth 100000 in
theorem wb_mi_Reader_readInto : Cond.selects (pi_y mi_Reader_readInto).cls (pi_y mi_Reader_readInto) (pi_y mi_Reader_readInto) ∈ pt_Ts := pt_w_ok (i := 391) (by decide +kernel)
set_option maxRecDepth 100000 in
theorem wa_mi_Plan_clearText : Cond.instanceMethod (pi_y mi_Plan_clearText) ∈ pt_Ts := pt_w_ok (i := 394) (by decide +kernel)
set_option maxRecDepth 100000 in
theorem wb_mi_Plan_clearText : Cond.selects (pi_y mi_Plan_clearText).cls (pi_y mi_Plan_clearText) (pi_y mi_Plan_clearText) ∈ pt_Ts := pt_w_ok (i := 395) (by decide +kernel)
set_option maxRecDepth 100000 in
theorem wa_mi_Ledger_dropTo : Cond.instanceMethod (pi_y mi_Ledger_dropTo) ∈ pt_Ts := pt_w_ok (i := 398) (by decide +kernel)
set_option maxRecDepth 100000 in
theorem wb_mi_Ledger_dropTo : Cond.selects (pi_y mi_Ledger_dropTo).cls (pi_y mi_Ledger_dropTo) (pi_y mi_Ledger_dropTo) ∈ pt_Ts := pt_w_ok (i := 399) (by decide +kernel)
set_option maxRecDepth 100000 in
theorem wa_mi_Layout_clear : Cond.instanceMethod (pi_y mi_Layout_clear) ∈ pt_Ts := pt_w_ok (i := 402) (by decide +kernel)
set_option maxRecDepth 100000 in
theorem wb_mi_Layout_clear : Cond.selects (pi_y mi_Layout_clear).cls (pi_y mi_Layout_clear) (pi_y mi_Layout_clear) ∈ pt_Ts := pt_w_ok (i := 403) (by decide +kernel)
set_option maxRecDepth 100000 in
theorem wa_mi_Reader_readBoxes : Cond.instanceMethod (pi_y mi_Reader_readBoxes) ∈ pt_Ts := pt_w_ok (i := 407) (by decide +kernel)
set_option maxRecDepth 100000 in
theorem wb_mi_Reader_readBoxes : Cond.selects (pi_y mi_Reader_readBoxes).cls (pi_y mi_Reader_readBoxes) (pi_y mi_Reader_readBoxes) ∈ pt_Ts := pt_s_ok (by decide +kernel)
set_option maxRecDepth 100000 in
theorem wa_mi_Reader_skipBlanks : Cond.instanceMethod (pi_y mi_Reader_skipBlanks) ∈ pt_Ts := pt_w_ok (i := 411) (by decide +kernel)
set_option maxRecDepth 100000 in
theorem wb_mi_Reader_skipBlanks : Cond.selects (pi_y mi_Reader_skipBlanks).cls (pi_y mi_Reader_skipBlanks) (pi_y mi_Reader_skipBlanks) ∈ pt_Ts := pt_s_ok (by decide +kernel)
set_option maxRecDepth 100000 in
theorem wa_mi_Tape_byteAt : Cond.instanceMethod (pi_y mi_Tape_byteAt) ∈ pt_Ts := pt_w_ok (i := 414) (by decide +kernel)
set_option maxRecDepth 100000 in
theorem wb_mi_Tape_byteAt : Cond.selects (pi_y mi_Tape_byteAt).cls (pi_y mi_Tape_byteAt) (pi_y mi_Tape_byteAt) ∈ pt_Ts := pt_w_ok (i := 415) (by decide +kernel)
set_option maxRecDepth 100000 in
theorem wa_mi_BP_valueAt : Cond.static (pi_y mi_BP_valueAt) ∈ pt_Ts := pt_w_ok (i := 418) (by decide +kernel)
set_option maxRecDepth 100000 in
theorem wa_mi_Reader_fail : Cond.instanceMethod (pi_y mi_Reader_fail) ∈ pt_Ts := pt_w_ok (i := 422) (by decide +kernel)
set_option maxRecDepth 100000 in
theorem wb_mi_Reader_fail : Cond.selects (pi_y mi_Reader_fail).cls (pi_y mi_Reader_fail) (pi_y mi_Reader_fail) ∈ pt_Ts := pt_s_ok (by decide +kernel)
set_option maxRecDepth 100000 in
theorem wa_mi_Reader_number : Cond.instanceMethod (pi_y mi_Reader_number) ∈ pt_Ts := pt_w_ok (i := 426) (by decide +kernel)
set_option maxRecDepth 100000 in
theorem wb_mi_Reader_number : Cond.selects (pi_y mi_Reader_number).cls (pi_y mi_Reader_number) (pi_y mi_Reader_number) ∈ pt_Ts := pt_s_ok (by decide +kernel)
set_option maxRecDepth 100000 in
theorem wa_mi_Reader_digitAt : Cond.instanceMethod (pi_y mi_Reader_digitAt) ∈ pt_Ts := pt_w_ok (i := 430) (by decide +kernel)
set_option maxRecDepth 100000 in
theorem wb_mi_Reader_digitAt : Cond.selects (pi_y mi_Reader_digitAt).cls (pi_y mi_Reader_digitAt) (pi_y mi_Reader_digitAt) ∈ pt_Ts := pt_s_ok (by decide +kernel)
set_option maxRecDepth 100000 in
theorem wa_mi_Reader_comesMore : Cond.instanceMethod (pi_y mi_Reader_comesMore) ∈ pt_Ts := pt_w_ok (i := 434) (by decide +kernel)
set_option maxRecDepth 100000 in
theorem wb_mi_Reader_comesMore : Cond.selects (pi_y mi_Reader_comesMore).cls (pi_y mi_Reader_comesMore) (pi_y mi_Reader_comesMore) ∈ pt_Ts := pt_s_ok (by decide +kernel)
set_option maxRecDepth 100000 in
theorem wa_mi_Reader_readStatement : Cond.instanceMethod (pi_y mi_Reader_readStatement) ∈ pt_Ts := pt_w_ok (i := 439) (by decide +kernel)
set_option maxRecDepth 100000 in
theorem wb_mi_Reader_readStatement : Cond.selects (pi_y mi_Reader_readStatement).cls (pi_y mi_Reader_readStatement) (pi_y mi_Reader_readStatement) ∈ pt_Ts := pt_s_ok (by decide +kernel)
set_option maxRecDepth 100000 in
theorem wa_mi_Reader_readCable : Cond.instanceMethod (pi_y mi_Reader_readCable) ∈ pt_Ts := pt_w_ok (i := 443) (by decide +kernel)
set_option maxRecDepth 100000 in
theorem wb_mi_Reader_readCable : Cond.selects (pi_y mi_Reader_readCable).cls (pi_y mi_Reader_readCable) (pi_y mi_Reader_readCable) ∈ pt_Ts := pt_s_ok (by decide +kernel)
set_option maxRecDepth 100000 in
theorem wa_mi_Plan_cableTo : Cond.instanceMethod (pi_y mi_Plan_cableTo) ∈ pt_Ts := pt_w_ok (i := 446) (by decide +kernel)
set_option maxRecDepth 100000 in
theorem wb_mi_Plan_cableTo : Cond.selects (pi_y mi_Plan_cableTo).cls (pi_y mi_Plan_cableTo) (pi_y mi_Plan_cableTo) ∈ pt_Ts := pt_w_ok (i := 447) (by decide +kernel)
set_option maxRecDepth 100000 in
theorem wa_mi_Plan_hasBox : Cond.instanceMethod (pi_y mi_Plan_hasBox) ∈ pt_Ts := pt_w_ok (i := 450) (by decide +kernel)
set_option maxRecDepth 100000 in
theorem wb_mi_Plan_hasBox : Cond.selects (pi_y mi_Plan_hasBox).cls (pi_y mi_Plan_hasBox) (pi_y mi_Plan_hasBox) ∈ pt_Ts := pt_w_ok (i := 451) (by decide +kernel)
set_option maxRecDepth 100000 in
theorem wa_mi_Plan_addCable : Cond.instanceMethod (pi_y mi_Plan_addCable) ∈ pt_Ts := pt_w_ok (i := 455) (by decide +kernel)
set_option maxRecDepth 100000 in
theorem wb_mi_Plan_addCable : Cond.selects (pi_y mi_Plan_addCable).cls (pi_y mi_Plan_addCable) (pi_y mi_Plan_addCable) ∈ pt_Ts := pt_w_ok (i := 456) (by decide +kernel)
set_option maxRecDepth 100000 in
theorem wa_mi_Ledger_add : Cond.instanceMethod (pi_y mi_Ledger_add) ∈ pt_Ts := pt_w_ok (i := 459) (by decide +kernel)
set_option maxRecDepth 100000 in
theorem wb_mi_Ledger_add : Cond.selects (pi_y mi_Ledger_add).cls (pi_y mi_Ledger_add) (pi_y mi_Ledger_add) ∈ pt_Ts := pt_w_ok (i := 460) (by decide +kernel)
set_option maxRecDepth 100000 in
theorem wa_mi_Reader_readJoint : Cond.instanceMethod (pi_y mi_Reader_readJoint) ∈ pt_Ts := pt_w_ok (i := 466) (by decide +kernel)
set_option maxRecDepth 100000 in
theorem wb_mi_Reader_readJoint : Cond.selects (pi_y mi_Reader_readJoint).cls (pi_y mi_Reader_readJoint) (pi_y mi_Reader_readJoint) ∈ pt_Ts := pt_s_ok (by decide +kernel)
set_option maxRecDepth 100000 in
theorem wa_mi_Ledger_size : Cond.instanceMethod (pi_y mi_Ledger_size) ∈ pt_Ts := pt_w_ok (i := 469) (by decide +kernel)
set_option maxRecDepth 100000 in
theorem wb_mi_Ledger_size : Cond.selects (pi_y mi_Ledger_size).cls (pi_y mi_Ledger_size) (pi_y mi_Ledger_size) ∈ pt_Ts := pt_w_ok (i := 470) (by decide +kernel)
set_option maxRecDepth 100000 in
theorem wa_mi_Plan_pairsOf : Cond.instanceMethod (pi_y mi_Plan_pairsOf) ∈ pt_Ts := pt_w_ok (i := 473) (by decide +kernel)
set_option maxRecDepth 100000 in
theorem wb_mi_Plan_pairsOf : Cond.selects (pi_y mi_Plan_pairsOf).cls (pi_y mi_Plan_pairsOf) (pi_y mi_Plan_pairsOf) ∈ pt_Ts := pt_w_ok (i := 474) (by decide +kernel)
set_option maxRecDepth 100000 in
theorem wa_mi_Ledger_at : Cond.instanceMethod (pi_y mi_Ledger_at) ∈ pt_Ts := pt_w_ok (i := 477) (by decide +kernel)
set_option maxRecDepth 100000 in
theorem wb_mi_Ledger_at : Cond.selects (pi_y mi_Ledger_at).cls (pi_y mi_Ledger_at) (pi_y mi_Ledger_at) ∈ pt_Ts := pt_w_ok (i := 478) (by decide +kernel)
set_option maxRecDepth 100000 in
theorem wa_mi_Plan_meet : Cond.instanceMethod (pi_y mi_Plan_meet) ∈ pt_Ts := pt_w_ok (i := 481) (by decide +kernel)
set_option maxRecDepth 100000 in
theorem wb_mi_Plan_meet : Cond.selects (pi_y mi_Plan_meet).cls (pi_y mi_Plan_meet) (pi_y mi_Plan_meet) ∈ pt_Ts := pt_w_ok (i := 482) (by decide +kernel)
set_option maxRecDepth 100000 in
theorem wa_mi_Ledger_has : Cond.instanceMethod (pi_y mi_Ledger_has) ∈ pt_Ts := pt_w_ok (i := 485) (by decide +kernel)
set_option maxRecDepth 100000 in
theorem wb_mi_Ledger_has : Cond.selects (pi_y mi_Ledger_has).cls (pi_y mi_Ledger_has) (pi_y mi_Ledger_has) ∈ pt_Ts := pt_w_ok (i := 486) (by decide +kernel)
set_option maxRecDepth 100000 in
theorem wa_mi_Plan_boxAt : Cond.instanceMethod (pi_y mi_Plan_boxAt) ∈ pt_Ts := pt_w_ok (i := 489) (by decide +kernel)
set_option maxRecDepth 100000 in
theorem wb_mi_Plan_boxAt : Cond.selects (pi_y mi_Plan_boxAt).cls (pi_y mi_Plan_boxAt) (pi_y mi_Plan_boxAt) ∈ pt_Ts := pt_w_ok (i := 490) (by decide +kernel)
set_option maxRecDepth 100000 in
theorem wa_mi_BP_siteOf : Cond.static (pi_y mi_BP_siteOf) ∈ pt_Ts := pt_w_ok (i := 493) (by decide +kernel)
set_option maxRecDepth 100000 in
theorem wa_mi_Layout_join : Cond.instanceMethod (pi_y mi_Layout_join) ∈ pt_Ts := pt_w_ok (i := 496) (by decide +kernel)
set_option maxRecDepth 100000 in
theorem wb_mi_Layout_join : Cond.selects (pi_y mi_Layout_join).cls (pi_y mi_Layout_join) (pi_y mi_Layout_join) ∈ pt_Ts := pt_w_ok (i := 497) (by decide +kernel)
set_option maxRecDepth 100000 in
theorem wa_mi_Reader_readHouse : Cond.instanceMethod (pi_y mi_Reader_readHouse) ∈ pt_Ts := pt_w_ok (i := 503) (by decide +kernel)
set_option maxRecDepth 100000 in
theorem wb_mi_Reader_readHouse : Cond.selects (pi_y mi_Reader_readHouse).cls (pi_y mi_Reader_readHouse) (pi_y mi_Reader_readHouse) ∈ pt_Ts := pt_s_ok (by decide +kernel)
set_option maxRecDepth 100000 in
theorem wa_mi_Layout_hang : Cond.instanceMethod (pi_y mi_Layout_hang) ∈ pt_Ts := pt_w_ok (i := 506) (by decide +kernel)
set_option maxRecDepth 100000 in
theorem wb_mi_Layout_hang : Cond.selects (pi_y mi_Layout_hang).cls (pi_y mi_Layout_hang) (pi_y mi_Layout_hang) ∈ pt_Ts := pt_w_ok (i := 507) (by decide +kernel)
set_option maxRecDepth 100000 in
theorem wa_mi_Plan_settleText : Cond.instanceMethod (pi_y mi_Plan_settleText) ∈ pt_Ts := pt_w_ok (i := 510) (by decide +kernel)
set_option maxRecDepth 100000 in
theorem wb_mi_Plan_settleText : Cond.selects (pi_y mi_Plan_settleText).cls (pi_y mi_Plan_settleText) (pi_y mi_Plan_settleText) ∈ pt_Ts := pt_w_ok (i := 511) (by decide +kernel)
set_option maxRecDepth 100000 in
theorem wa_mi_Layout_copy : Cond.instanceMethod (pi_y mi_Layout_copy) ∈ pt_Ts := pt_w_ok (i := 514) (by decide +kernel)
set_option maxRecDepth 100000 in
theorem wb_mi_Layout_copy : Cond.selects (pi_y mi_Layout_copy).cls (pi_y mi_Layout_copy) (pi_y mi_Layout_copy) ∈ pt_Ts := pt_w_ok (i := 515) (by decide +kernel)
set_option maxRecDepth 100000 in
theorem wa_mi_BP_plan : Cond.instanceMethod (pi_y mi_BP_plan) ∈ pt_Ts := pt_w_ok (i := 523) (by decide +kernel)
set_option maxRecDepth 100000 in
theorem wb_mi_BP_plan : Cond.selects (pi_y mi_BP_plan).cls (pi_y mi_BP_plan) (pi_y mi_BP_plan) ∈ pt_Ts := pt_w_ok (i := 524) (by decide +kernel)
set_option maxRecDepth 100000 in
theorem wa_mi_BP_joint : Cond.instanceMethod (pi_y mi_BP_joint) ∈ pt_Ts := pt_w_ok (i := 527) (by decide +kernel)
set_option maxRecDepth 100000 in
theorem wb_mi_BP_joint : Cond.selects (pi_y mi_BP_joint).cls (pi_y mi_BP_joint) (pi_y mi_BP_joint) ∈ pt_Ts := pt_w_ok (i := 528) (by decide +kernel)
set_option maxRecDepth 100000 in
theorem wa_mi_BP_planAt : Cond.instanceMethod (pi_y mi_BP_planAt) ∈ pt_Ts := pt_w_ok (i := 532) (by decide +kernel)
set_option maxRecDepth 100000 in
theorem wb_mi_BP_planAt : Cond.selects (pi_y mi_BP_planAt).cls (pi_y mi_BP_planAt) (pi_y mi_BP_planAt) ∈ pt_Ts := pt_s_ok (by decide +kernel)
set_option maxRecDepth 100000 in
theorem wa_mi_Plan_hasPair : Cond.instanceMethod (pi_y mi_Plan_hasPair) ∈ pt_Ts := pt_w_ok (i := 535) (by decide +kernel)
set_option maxRecDepth 100000 in
theorem wb_mi_Plan_hasPair : Cond.selects (pi_y mi_Plan_hasPair).cls (pi_y mi_Plan_hasPair) (pi_y mi_Plan_hasPair) ∈ pt_Ts := pt_w_ok (i := 536) (by decide +kernel)
set_option maxRecDepth 100000 in
theorem wa_mi_BP_house : Cond.instanceMethod (pi_y mi_BP_house) ∈ pt_Ts := pt_w_ok (i := 541) (by decide +kernel)
set_option maxRecDepth 100000 in
theorem wb_mi_BP_house : Cond.selects (pi_y mi_BP_house).cls (pi_y mi_BP_house) (pi_y mi_BP_house) ∈ pt_Ts := pt_w_ok (i := 542) (by decide +kernel)
set_option maxRecDepth 100000 in
theorem wa_mi_BP_slip : Cond.instanceMethod (pi_y mi_BP_slip) ∈ pt_Ts := pt_w_ok (i := 545) (by decide +kernel)
set_option maxRecDepth 100000 in
theorem wb_mi_BP_slip : Cond.selects (pi_y mi_BP_slip).cls (pi_y mi_BP_slip) (pi_y mi_BP_slip) ∈ pt_Ts := pt_w_ok (i := 546) (by decide +kernel)
set_option maxRecDepth 100000 in
theorem wa_mi_BP_isHouse : Cond.static (pi_y mi_BP_isHouse) ∈ pt_Ts := pt_w_ok (i := 550) (by decide +kernel)
set_option maxRecDepth 100000 in
theorem wa_mi_Plan_addSlip : Cond.instanceMethod (pi_y mi_Plan_addSlip) ∈ pt_Ts := pt_w_ok (i := 553) (by decide +kernel)
set_option maxRecDepth 100000 in
theorem wb_mi_Plan_addSlip : Cond.selects (pi_y mi_Plan_addSlip).cls (pi_y mi_Plan_addSlip) (pi_y mi_Plan_addSlip) ∈ pt_Ts := pt_w_ok (i := 554) (by decide +kernel)
set_option maxRecDepth 100000 in
theorem wa_mi_Layout_work : Cond.instanceMethod (pi_y mi_Layout_work) ∈ pt_Ts := pt_w_ok (i := 557) (by decide +kernel)
set_option maxRecDepth 100000 in
theorem wb_mi_Layout_work : Cond.selects (pi_y mi_Layout_work).cls (pi_y mi_Layout_work) (pi_y mi_Layout_work) ∈ pt_Ts := pt_w_ok (i := 558) (by decide +kernel)
set_option maxRecDepth 100000 in
theorem wa_mi_Sheet_forgetAll : Cond.instanceMethod (pi_y mi_Sheet_forgetAll) ∈ pt_Ts := pt_w_ok (i := 563) (by decide +kernel)
set_option maxRecDepth 100000 in
theorem wb_mi_Sheet_forgetAll : Cond.selects (pi_y mi_Sheet_forgetAll).cls (pi_y mi_Sheet_forgetAll) (pi_y mi_Sheet_forgetAll) ∈ pt_Ts := pt_w_ok (i := 564) (by decide +kernel)
set_option maxRecDepth 100000 in
theorem wa_mi_BP_trouble : Cond.instanceMethod (pi_y mi_BP_trouble) ∈ pt_Ts := pt_w_ok (i := 567) (by decide +kernel)
set_option maxRecDepth 100000 in
theorem wb_mi_BP_trouble : Cond.selects (pi_y mi_BP_trouble).cls (pi_y mi_BP_trouble) (pi_y mi_BP_trouble) ∈ pt_Ts := pt_w_ok (i := 568) (by decide +kernel)
set_option maxRecDepth 100000 in
theorem wa_mi_Plan_canHaveTrouble : Cond.instanceMethod (pi_y mi_Plan_canHaveTrouble) ∈ pt_Ts := pt_w_ok (i := 571) (by decide +kernel)
set_option maxRecDepth 100000 in
theorem wb_mi_Plan_canHaveTrouble : Cond.selects (pi_y mi_Plan_canHaveTrouble).cls (pi_y mi_Plan_canHaveTrouble) (pi_y mi_Plan_canHaveTrouble) ∈ pt_Ts := pt_w_ok (i := 572) (by decide +kernel)
set_option maxRecDepth 100000 in
theorem wa_mi_Plan_lengthOf : Cond.instanceMethod (pi_y mi_Plan_lengthOf) ∈ pt_Ts := pt_w_ok (i := 576) (by decide +kernel)
set_option maxRecDepth 100000 in
theorem wb_mi_Plan_lengthOf : Cond.selects (pi_y mi_Plan_lengthOf).cls (pi_y mi_Plan_lengthOf) (pi_y mi_Plan_lengthOf) ∈ pt_Ts := pt_w_ok (i := 577) (by decide +kernel)
set_option maxRecDepth 100000 in
theorem wa_mi_Plan_addTrouble : Cond.instanceMethod (pi_y mi_Plan_addTrouble) ∈ pt_Ts := pt_w_ok (i := 580) (by decide +kernel)
set_option maxRecDepth 100000 in
theorem wb_mi_Plan_addTrouble : Cond.selects (pi_y mi_Plan_addTrouble).cls (pi_y mi_Plan_addTrouble) (pi_y mi_Plan_addTrouble) ∈ pt_Ts := pt_w_ok (i := 581) (by decide +kernel)
set_option maxRecDepth 100000 in
theorem wa_mi_BP_troubles : Cond.instanceMethod (pi_y mi_BP_troubles) ∈ pt_Ts := pt_w_ok (i := 584) (by decide +kernel)
set_option maxRecDepth 100000 in
theorem wb_mi_BP_troubles : Cond.selects (pi_y mi_BP_troubles).cls (pi_y mi_BP_troubles) (pi_y mi_BP_troubles) ∈ pt_Ts := pt_w_ok (i := 585) (by decide +kernel)
set_option maxRecDepth 100000 in
theorem wa_mi_BP_heard : Cond.instanceMethod (pi_y mi_BP_heard) ∈ pt_Ts := pt_w_ok (i := 589) (by decide +kernel)
set_option maxRecDepth 100000 in
theorem wb_mi_BP_heard : Cond.selects (pi_y mi_BP_heard).cls (pi_y mi_BP_heard) (pi_y mi_BP_heard) ∈ pt_Ts := pt_w_ok (i := 590) (by decide +kernel)
set_option maxRecDepth 100000 in
theorem wa_mi_BP_planWith : Cond.instanceMethod (pi_y mi_BP_planWith) ∈ pt_Ts := pt_w_ok (i := 594) (by decide +kernel)
set_option maxRecDepth 100000 in
theorem wb_mi_BP_planWith : Cond.selects (pi_y mi_BP_planWith).cls (pi_y mi_BP_planWith) (pi_y mi_BP_planWith) ∈ pt_Ts := pt_s_ok (by decide +kernel)
set_option maxRecDepth 100000 in
theorem wa_mi_Plan_hasWorld : Cond.instanceMethod (pi_y mi_Plan_hasWorld) ∈ pt_Ts := pt_w_ok (i := 597) (by decide +kernel)
set_option maxRecDepth 100000 in
theorem wb_mi_Plan_hasWorld : Cond.selects (pi_y mi_Plan_hasWorld).cls (pi_y mi_Plan_hasWorld) (pi_y mi_Plan_hasWorld) ∈ pt_Ts := pt_w_ok (i := 598) (by decide +kernel)
set_option maxRecDepth 100000 in
theorem wa_mi_Plan_worlds : Cond.instanceMethod (pi_y mi_Plan_worlds) ∈ pt_Ts := pt_w_ok (i := 601) (by decide +kernel)
set_option maxRecDepth 100000 in
theorem wb_mi_Plan_worlds : Cond.selects (pi_y mi_Plan_worlds).cls (pi_y mi_Plan_worlds) (pi_y mi_Plan_worlds) ∈ pt_Ts := pt_w_ok (i := 602) (by decide +kernel)
set_option maxRecDepth 100000 in
theorem wa_mi_BP_isEnd : Cond.static (pi_y mi_BP_isEnd) ∈ pt_Ts := pt_w_ok (i := 605) (by decide +kernel)
set_option maxRecDepth 100000 in
theorem wa_mi_Plan_hasCable : Cond.instanceMethod (pi_y mi_Plan_hasCable) ∈ pt_Ts := pt_w_ok (i := 608) (by decide +kernel)
set_option maxRecDepth 100000 in
theorem wb_mi_Plan_hasCable : Cond.selects (pi_y mi_Plan_hasCable).cls (pi_y mi_Plan_hasCable) (pi_y mi_Plan_hasCable) ∈ pt_Ts := pt_w_ok (i := 609) (by decide +kernel)
set_option maxRecDepth 100000 in
theorem wa_mi_Wires_lay : Cond.instanceMethod (pi_y mi_Wires_lay) ∈ pt_Ts := pt_w_ok (i := 612) (by decide +kernel)
set_option maxRecDepth 100000 in
theorem wb_mi_Wires_lay : Cond.selects (pi_y mi_Wires_lay).cls (pi_y mi_Wires_lay) (pi_y mi_Wires_lay) ∈ pt_Ts := pt_w_ok (i := 613) (by decide +kernel)
set_option maxRecDepth 100000 in
theorem wa_mi_Wires_befall : Cond.instanceMethod (pi_y mi_Wires_befall) ∈ pt_Ts := pt_w_ok (i := 619) (by decide +kernel)
set_option maxRecDepth 100000 in
theorem wb_mi_Wires_befall : Cond.selects (pi_y mi_Wires_befall).cls (pi_y mi_Wires_befall) (pi_y mi_Wires_befall) ∈ pt_Ts := pt_s_ok (by decide +kernel)
set_option maxRecDepth 100000 in
theorem wa_mi_Wires_cross : Cond.instanceMethod (pi_y mi_Wires_cross) ∈ pt_Ts := pt_w_ok (i := 625) (by decide +kernel)
set_option maxRecDepth 100000 in
theorem wb_mi_Wires_cross : Cond.selects (pi_y mi_Wires_cross).cls (pi_y mi_Wires_cross) (pi_y mi_Wires_cross) ∈ pt_Ts := pt_s_ok (by decide +kernel)
set_option maxRecDepth 100000 in
theorem wa_mi_Wires_cut : Cond.instanceMethod (pi_y mi_Wires_cut) ∈ pt_Ts := pt_w_ok (i := 630) (by decide +kernel)
set_option maxRecDepth 100000 in
theorem wb_mi_Wires_cut : Cond.selects (pi_y mi_Wires_cut).cls (pi_y mi_Wires_cut) (pi_y mi_Wires_cut) ∈ pt_Ts := pt_w_ok (i := 631) (by decide +kernel)
set_option maxRecDepth 100000 in
theorem wa_mi_Wires_bringTogether : Cond.instanceMethod (pi_y mi_Wires_bringTogether) ∈ pt_Ts := pt_w_ok (i := 635) (by decide +kernel)
set_option maxRecDepth 100000 in
theorem wb_mi_Wires_bringTogether : Cond.selects (pi_y mi_Wires_bringTogether).cls (pi_y mi_Wires_bringTogether) (pi_y mi_Wires_bringTogether) ∈ pt_Ts := pt_s_ok (by decide +kernel)
set_option maxRecDepth 100000 in
theorem wa_mi_Wires_layoutWithout : Cond.instanceMethod (pi_y mi_Wires_layoutWithout) ∈ pt_Ts := pt_w_ok (i := 639) (by decide +kernel)
set_option maxRecDepth 100000 in
theorem wb_mi_Wires_layoutWithout : Cond.selects (pi_y mi_Wires_layoutWithout).cls (pi_y mi_Wires_layoutWithout) (pi_y mi_Wires_layoutWithout) ∈ pt_Ts := pt_s_ok (by decide +kernel)
set_option maxRecDepth 100000 in
theorem wa_mi_Tone_send : Cond.instanceMethod (pi_y mi_Tone_send) ∈ pt_Ts := pt_w_ok (i := 644) (by decide +kernel)
set_option maxRecDepth 100000 in
theorem wb_mi_Tone_send : Cond.selects (pi_y mi_Tone_send).cls (pi_y mi_Tone_send) (pi_y mi_Tone_send) ∈ pt_Ts := pt_w_ok (i := 645) (by decide +kernel)
set_option maxRecDepth 100000 in
theorem wa_mi_Wires_wireAt : Cond.instanceMethod (pi_y mi_Wires_wireAt) ∈ pt_Ts := pt_w_ok (i := 649) (by decide +kernel)
set_option maxRecDepth 100000 in
theorem wb_mi_Wires_wireAt : Cond.selects (pi_y mi_Wires_wireAt).cls (pi_y mi_Wires_wireAt) (pi_y mi_Wires_wireAt) ∈ pt_Ts := pt_w_ok (i := 650) (by decide +kernel)
set_option maxRecDepth 100000 in
theorem wa_mi_Wires_pieceAtEnd : Cond.instanceMethod (pi_y mi_Wires_pieceAtEnd) ∈ pt_Ts := pt_w_ok (i := 653) (by decide +kernel)
set_option maxRecDepth 100000 in
theorem wb_mi_Wires_pieceAtEnd : Cond.selects (pi_y mi_Wires_pieceAtEnd).cls (pi_y mi_Wires_pieceAtEnd) (pi_y mi_Wires_pieceAtEnd) ∈ pt_Ts := pt_w_ok (i := 654) (by decide +kernel)
set_option maxRecDepth 100000 in
theorem wa_mi_Tone_come : Cond.instanceMethod (pi_y mi_Tone_come) ∈ pt_Ts := pt_w_ok (i := 658) (by decide +kernel)
set_option maxRecDepth 100000 in
theorem wb_mi_Tone_come : Cond.selects (pi_y mi_Tone_come).cls (pi_y mi_Tone_come) (pi_y mi_Tone_come) ∈ pt_Ts := pt_s_ok (by decide +kernel)
set_option maxRecDepth 100000 in
theorem wa_mi_Tone_goAlong : Cond.instanceMethod (pi_y mi_Tone_goAlong) ∈ pt_Ts := pt_w_ok (i := 664) (by decide +kernel)
set_option maxRecDepth 100000 in
theorem wb_mi_Tone_goAlong : Cond.selects (pi_y mi_Tone_goAlong).cls (pi_y mi_Tone_goAlong) (pi_y mi_Tone_goAlong) ∈ pt_Ts := pt_s_ok (by decide +kernel)
set_option maxRecDepth 100000 in
theorem wa_mi_BP_cableOf : Cond.static (pi_y mi_BP_cableOf) ∈ pt_Ts := pt_w_ok (i := 667) (by decide +kernel)
set_option maxRecDepth 100000 in
theorem wa_mi_Tone_comesTo : Cond.instanceMethod (pi_y mi_Tone_comesTo) ∈ pt_Ts := pt_w_ok (i := 670) (by decide +kernel)
set_option maxRecDepth 100000 in
theorem wb_mi_Tone_comesTo : Cond.selects (pi_y mi_Tone_comesTo).cls (pi_y mi_Tone_comesTo) (pi_y mi_Tone_comesTo) ∈ pt_Ts := pt_w_ok (i := 671) (by decide +kernel)
set_option maxRecDepth 100000 in
theorem wa_mi_BP_pairOf : Cond.static (pi_y mi_BP_pairOf) ∈ pt_Ts := pt_w_ok (i := 674) (by decide +kernel)
set_option maxRecDepth 100000 in
theorem wa_mi_Wires_wireBehind : Cond.instanceMethod (pi_y mi_Wires_wireBehind) ∈ pt_Ts := pt_w_ok (i := 677) (by decide +kernel)
set_option maxRecDepth 100000 in
theorem wb_mi_Wires_wireBehind : Cond.selects (pi_y mi_Wires_wireBehind).cls (pi_y mi_Wires_wireBehind) (pi_y mi_Wires_wireBehind) ∈ pt_Ts := pt_w_ok (i := 678) (by decide +kernel)
set_option maxRecDepth 100000 in
theorem wa_mi_Tone_goAcross : Cond.instanceMethod (pi_y mi_Tone_goAcross) ∈ pt_Ts := pt_w_ok (i := 682) (by decide +kernel)
set_option maxRecDepth 100000 in
theorem wb_mi_Tone_goAcross : Cond.selects (pi_y mi_Tone_goAcross).cls (pi_y mi_Tone_goAcross) (pi_y mi_Tone_goAcross) ∈ pt_Ts := pt_s_ok (by decide +kernel)
set_option maxRecDepth 100000 in
theorem wa_mi_Wires_pieceAt : Cond.instanceMethod (pi_y mi_Wires_pieceAt) ∈ pt_Ts := pt_w_ok (i := 685) (by decide +kernel)
set_option maxRecDepth 100000 in
theorem wb_mi_Wires_pieceAt : Cond.selects (pi_y mi_Wires_pieceAt).cls (pi_y mi_Wires_pieceAt) (pi_y mi_Wires_pieceAt) ∈ pt_Ts := pt_w_ok (i := 686) (by decide +kernel)
set_option maxRecDepth 100000 in
theorem wa_mi_BP_metres : Cond.instanceMethod (pi_y mi_BP_metres) ∈ pt_Ts := pt_w_ok (i := 690) (by decide +kernel)
set_option maxRecDepth 100000 in
theorem wb_mi_BP_metres : Cond.selects (pi_y mi_BP_metres).cls (pi_y mi_BP_metres) (pi_y mi_BP_metres) ∈ pt_Ts := pt_w_ok (i := 691) (by decide +kernel)
set_option maxRecDepth 100000 in
theorem wa_mi_Wires_measure : Cond.instanceMethod (pi_y mi_Wires_measure) ∈ pt_Ts := pt_w_ok (i := 694) (by decide +kernel)
set_option maxRecDepth 100000 in
theorem wb_mi_Wires_measure : Cond.selects (pi_y mi_Wires_measure).cls (pi_y mi_Wires_measure) (pi_y mi_Wires_measure) ∈ pt_Ts := pt_w_ok (i := 695) (by decide +kernel)
set_option maxRecDepth 100000 in
theorem wa_mi_Wires_toFirstTouch : Cond.instanceMethod (pi_y mi_Wires_toFirstTouch) ∈ pt_Ts := pt_w_ok (i := 702) (by decide +kernel)
set_option maxRecDepth 100000 in
theorem wb_mi_Wires_toFirstTouch : Cond.selects (pi_y mi_Wires_toFirstTouch).cls (pi_y mi_Wires_toFirstTouch) (pi_y mi_Wires_toFirstTouch) ∈ pt_Ts := pt_s_ok (by decide +kernel)
set_option maxRecDepth 100000 in
theorem wa_mi_Wires_nearer : Cond.static (pi_y mi_Wires_nearer) ∈ pt_Ts := pt_w_ok (i := 705) (by decide +kernel)
set_option maxRecDepth 100000 in
theorem wa_mi_Wires_toFirstBreak : Cond.instanceMethod (pi_y mi_Wires_toFirstBreak) ∈ pt_Ts := pt_w_ok (i := 709) (by decide +kernel)
set_option maxRecDepth 100000 in
theorem wb_mi_Wires_toFirstBreak : Cond.selects (pi_y mi_Wires_toFirstBreak).cls (pi_y mi_Wires_toFirstBreak) (pi_y mi_Wires_toFirstBreak) ∈ pt_Ts := pt_s_ok (by decide +kernel)
set_option maxRecDepth 100000 in
theorem wa_mi_Wires_hangsBehind : Cond.instanceMethod (pi_y mi_Wires_hangsBehind) ∈ pt_Ts := pt_w_ok (i := 714) (by decide +kernel)
set_option maxRecDepth 100000 in
theorem wb_mi_Wires_hangsBehind : Cond.selects (pi_y mi_Wires_hangsBehind).cls (pi_y mi_Wires_hangsBehind) (pi_y mi_Wires_hangsBehind) ∈ pt_Ts := pt_s_ok (by decide +kernel)
set_option maxRecDepth 100000 in
theorem wa_mi_BP_fed : Cond.instanceMethod (pi_y mi_BP_fed) ∈ pt_Ts := pt_w_ok (i := 717) (by decide +kernel)
set_option maxRecDepth 100000 in
theorem wb_mi_BP_fed : Cond.selects (pi_y mi_BP_fed).cls (pi_y mi_BP_fed) (pi_y mi_BP_fed) ∈ pt_Ts := pt_w_ok (i := 718) (by decide +kernel)
set_option maxRecDepth 100000 in
theorem wa_mi_Wires_homeOf : Cond.instanceMethod (pi_y mi_Wires_homeOf) ∈ pt_Ts := pt_w_ok (i := 722) (by decide +kernel)
set_option maxRecDepth 100000 in
theorem wb_mi_Wires_homeOf : Cond.selects (pi_y mi_Wires_homeOf).cls (pi_y mi_Wires_homeOf) (pi_y mi_Wires_homeOf) ∈ pt_Ts := pt_w_ok (i := 723) (by decide +kernel)
set_option maxRecDepth 100000 in
theorem wa_mi_Bench_feedersOf : Cond.instanceMethod (pi_y mi_Bench_feedersOf) ∈ pt_Ts := pt_w_ok (i := 726) (by decide +kernel)
set_option maxRecDepth 100000 in
theorem wb_mi_Bench_feedersOf : Cond.selects (pi_y mi_Bench_feedersOf).cls (pi_y mi_Bench_feedersOf) (pi_y mi_Bench_feedersOf) ∈ pt_Ts := pt_w_ok (i := 727) (by decide +kernel)
set_option maxRecDepth 100000 in
theorem wa_mi_Tone_feeders : Cond.instanceMethod (pi_y mi_Tone_feeders) ∈ pt_Ts := pt_w_ok (i := 731) (by decide +kernel)
set_option maxRecDepth 100000 in
theorem wb_mi_Tone_feeders : Cond.selects (pi_y mi_Tone_feeders).cls (pi_y mi_Tone_feeders) (pi_y mi_Tone_feeders) ∈ pt_Ts := pt_w_ok (i := 732) (by decide +kernel)
set_option maxRecDepth 100000 in
theorem wa_mi_BP_served : Cond.instanceMethod (pi_y mi_BP_served) ∈ pt_Ts := pt_w_ok (i := 737) (by decide +kernel)
set_option maxRecDepth 100000 in
theorem wb_mi_BP_served : Cond.selects (pi_y mi_BP_served).cls (pi_y mi_BP_served) (pi_y mi_BP_served) ∈ pt_Ts := pt_w_ok (i := 738) (by decide +kernel)
set_option maxRecDepth 100000 in
theorem wa_mi_Bench_servedHouses : Cond.instanceMethod (pi_y mi_Bench_servedHouses) ∈ pt_Ts := pt_w_ok (i := 741) (by decide +kernel)
set_option maxRecDepth 100000 in
theorem wb_mi_Bench_servedHouses : Cond.selects (pi_y mi_Bench_servedHouses).cls (pi_y mi_Bench_servedHouses) (pi_y mi_Bench_servedHouses) ∈ pt_Ts := pt_w_ok (i := 742) (by decide +kernel)
set_option maxRecDepth 100000 in
theorem wa_mi_Lng_bitCount : Cond.static (pi_y mi_Lng_bitCount) ∈ pt_Ts := pt_w_ok (i := 747) (by decide +kernel)
set_option maxRecDepth 100000 in
theorem wa_mi_Bench_isShared : Cond.instanceMethod (pi_y mi_Bench_isShared) ∈ pt_Ts := pt_w_ok (i := 754) (by decide +kernel)
set_option maxRecDepth 100000 in
theorem wb_mi_Bench_isShared : Cond.selects (pi_y mi_Bench_isShared).cls (pi_y mi_Bench_isShared) (pi_y mi_Bench_isShared) ∈ pt_Ts := pt_s_ok (by decide +kernel)
set_option maxRecDepth 100000 in
theorem wa_mi_BP_neighbours : Cond.instanceMethod (pi_y mi_BP_neighbours) ∈ pt_Ts := pt_w_ok (i := 757) (by decide +kernel)
set_option maxRecDepth 100000 in
theorem wb_mi_BP_neighbours : Cond.selects (pi_y mi_BP_neighbours).cls (pi_y mi_BP_neighbours) (pi_y mi_BP_neighbours) ∈ pt_Ts := pt_w_ok (i := 758) (by decide +kernel)
set_option maxRecDepth 100000 in
theorem wa_mi_Bench_housesHearing : Cond.instanceMethod (pi_y mi_Bench_housesHearing) ∈ pt_Ts := pt_w_ok (i := 761) (by decide +kernel)
set_option maxRecDepth 100000 in
theorem wb_mi_Bench_housesHearing : Cond.selects (pi_y mi_Bench_housesHearing).cls (pi_y mi_Bench_housesHearing) (pi_y mi_Bench_housesHearing) ∈ pt_Ts := pt_w_ok (i := 762) (by decide +kernel)
set_option maxRecDepth 100000 in
theorem wa_mi_Tone_comesToHome : Cond.instanceMethod (pi_y mi_Tone_comesToHome) ∈ pt_Ts := pt_w_ok (i := 765) (by decide +kernel)
set_option maxRecDepth 100000 in
theorem wb_mi_Tone_comesToHome : Cond.selects (pi_y mi_Tone_comesToHome).cls (pi_y mi_Tone_comesToHome) (pi_y mi_Tone_comesToHome) ∈ pt_Ts := pt_w_ok (i := 766) (by decide +kernel)
set_option maxRecDepth 100000 in
theorem wa_mi_BP_spare : Cond.instanceMethod (pi_y mi_BP_spare) ∈ pt_Ts := pt_w_ok (i := 769) (by decide +kernel)
set_option maxRecDepth 100000 in
theorem wb_mi_BP_spare : Cond.selects (pi_y mi_BP_spare).cls (pi_y mi_BP_spare) (pi_y mi_BP_spare) ∈ pt_Ts := pt_w_ok (i := 770) (by decide +kernel)
set_option maxRecDepth 100000 in
theorem wa_mi_Bench_openPairs : Cond.instanceMethod (pi_y mi_Bench_openPairs) ∈ pt_Ts := pt_w_ok (i := 774) (by decide +kernel)
set_option maxRecDepth 100000 in
theorem wb_mi_Bench_openPairs : Cond.selects (pi_y mi_Bench_openPairs).cls (pi_y mi_Bench_openPairs) (pi_y mi_Bench_openPairs) ∈ pt_Ts := pt_w_ok (i := 775) (by decide +kernel)
set_option maxRecDepth 100000 in
theorem wa_mi_Wires_jointPairs : Cond.instanceMethod (pi_y mi_Wires_jointPairs) ∈ pt_Ts := pt_w_ok (i := 780) (by decide +kernel)
set_option maxRecDepth 100000 in
theorem wb_mi_Wires_jointPairs : Cond.selects (pi_y mi_Wires_jointPairs).cls (pi_y mi_Wires_jointPairs) (pi_y mi_Wires_jointPairs) ∈ pt_Ts := pt_w_ok (i := 781) (by decide +kernel)
set_option maxRecDepth 100000 in
theorem wa_mi_Wires_pairsWith : Cond.instanceMethod (pi_y mi_Wires_pairsWith) ∈ pt_Ts := pt_w_ok (i := 785) (by decide +kernel)
set_option maxRecDepth 100000 in
theorem wb_mi_Wires_pairsWith : Cond.selects (pi_y mi_Wires_pairsWith).cls (pi_y mi_Wires_pairsWith) (pi_y mi_Wires_pairsWith) ∈ pt_Ts := pt_s_ok (by decide +kernel)
set_option maxRecDepth 100000 in
theorem wa_mi_Wires_hungPairs : Cond.instanceMethod (pi_y mi_Wires_hungPairs) ∈ pt_Ts := pt_w_ok (i := 789) (by decide +kernel)
set_option maxRecDepth 100000 in
theorem wb_mi_Wires_hungPairs : Cond.selects (pi_y mi_Wires_hungPairs).cls (pi_y mi_Wires_hungPairs) (pi_y mi_Wires_hungPairs) ∈ pt_Ts := pt_w_ok (i := 790) (by decide +kernel)
set_option maxRecDepth 100000 in
theorem wa_mi_BP_test : Cond.instanceMethod (pi_y mi_BP_test) ∈ pt_Ts := pt_w_ok (i := 793) (by decide +kernel)
set_option maxRecDepth 100000 in
theorem wb_mi_BP_test : Cond.selects (pi_y mi_BP_test).cls (pi_y mi_BP_test) (pi_y mi_BP_test) ∈ pt_Ts := pt_w_ok (i := 794) (by decide +kernel)
set_option maxRecDepth 100000 in
theorem wa_mi_BP_tells : Cond.instanceMethod (pi_y mi_BP_tells) ∈ pt_Ts := pt_w_ok (i := 798) (by decide +kernel)
set_option maxRecDepth 100000 in
theorem wb_mi_BP_tells : Cond.selects (pi_y mi_BP_tells).cls (pi_y mi_BP_tells) (pi_y mi_BP_tells) ∈ pt_Ts := pt_w_ok (i := 799) (by decide +kernel)
set_option maxRecDepth 100000 in
theorem wa_mi_Bench_tell : Cond.instanceMethod (pi_y mi_Bench_tell) ∈ pt_Ts := pt_w_ok (i := 803) (by decide +kernel)
set_option maxRecDepth 100000 in
theorem wb_mi_Bench_tell : Cond.selects (pi_y mi_Bench_tell).cls (pi_y mi_Bench_tell) (pi_y mi_Bench_tell) ∈ pt_Ts := pt_w_ok (i := 804) (by decide +kernel)
set_option maxRecDepth 100000 in
theorem wa_mi_BP_read : Cond.instanceMethod (pi_y mi_BP_read) ∈ pt_Ts := pt_w_ok (i := 810) (by decide +kernel)
set_option maxRecDepth 100000 in
theorem wb_mi_BP_read : Cond.selects (pi_y mi_BP_read).cls (pi_y mi_BP_read) (pi_y mi_BP_read) ∈ pt_Ts := pt_w_ok (i := 811) (by decide +kernel)
set_option maxRecDepth 100000 in
theorem wa_mi_Plan_addReading : Cond.instanceMethod (pi_y mi_Plan_addReading) ∈ pt_Ts := pt_w_ok (i := 814) (by decide +kernel)
set_option maxRecDepth 100000 in
theorem wb_mi_Plan_addReading : Cond.selects (pi_y mi_Plan_addReading).cls (pi_y mi_Plan_addReading) (pi_y mi_Plan_addReading) ∈ pt_Ts := pt_w_ok (i := 815) (by decide +kernel)
set_option maxRecDepth 100000 in
theorem wa_mi_Sheet_forgetFits : Cond.instanceMethod (pi_y mi_Sheet_forgetFits) ∈ pt_Ts := pt_w_ok (i := 818) (by decide +kernel)
set_option maxRecDepth 100000 in
theorem wb_mi_Sheet_forgetFits : Cond.selects (pi_y mi_Sheet_forgetFits).cls (pi_y mi_Sheet_forgetFits) (pi_y mi_Sheet_forgetFits) ∈ pt_Ts := pt_w_ok (i := 819) (by decide +kernel)
set_option maxRecDepth 100000 in
theorem wa_mi_BP_unread : Cond.instanceMethod (pi_y mi_BP_unread) ∈ pt_Ts := pt_w_ok (i := 822) (by decide +kernel)
set_option maxRecDepth 100000 in
theorem wb_mi_BP_unread : Cond.selects (pi_y mi_BP_unread).cls (pi_y mi_BP_unread) (pi_y mi_BP_unread) ∈ pt_Ts := pt_w_ok (i := 823) (by decide +kernel)
set_option maxRecDepth 100000 in
theorem wa_mi_Plan_dropReading : Cond.instanceMethod (pi_y mi_Plan_dropReading) ∈ pt_Ts := pt_w_ok (i := 826) (by decide +kernel)
set_option maxRecDepth 100000 in
theorem wb_mi_Plan_dropReading : Cond.selects (pi_y mi_Plan_dropReading).cls (pi_y mi_Plan_dropReading) (pi_y mi_Plan_dropReading) ∈ pt_Ts := pt_w_ok (i := 827) (by decide +kernel)
set_option maxRecDepth 100000 in
theorem wa_mi_BP_fitting : Cond.instanceMethod (pi_y mi_BP_fitting) ∈ pt_Ts := pt_w_ok (i := 830) (by decide +kernel)
set_option maxRecDepth 100000 in
theorem wb_mi_BP_fitting : Cond.selects (pi_y mi_BP_fitting).cls (pi_y mi_BP_fitting) (pi_y mi_BP_fitting) ∈ pt_Ts := pt_w_ok (i := 831) (by decide +kernel)
set_option maxRecDepth 100000 in
theorem wa_mi_Bench_findFits : Cond.instanceMethod (pi_y mi_Bench_findFits) ∈ pt_Ts := pt_w_ok (i := 834) (by decide +kernel)
set_option maxRecDepth 100000 in
theorem wb_mi_Bench_findFits : Cond.selects (pi_y mi_Bench_findFits).cls (pi_y mi_Bench_findFits) (pi_y mi_Bench_findFits) ∈ pt_Ts := pt_w_ok (i := 835) (by decide +kernel)
set_option maxRecDepth 100000 in
theorem wa_mi_Bench_columnsRead : Cond.instanceMethod (pi_y mi_Bench_columnsRead) ∈ pt_Ts := pt_w_ok (i := 839) (by decide +kernel)
set_option maxRecDepth 100000 in
theorem wb_mi_Bench_columnsRead : Cond.selects (pi_y mi_Bench_columnsRead).cls (pi_y mi_Bench_columnsRead) (pi_y mi_Bench_columnsRead) ∈ pt_Ts := pt_s_ok (by decide +kernel)
set_option maxRecDepth 100000 in
theorem wa_mi_Bench_columnOfReading : Cond.instanceMethod (pi_y mi_Bench_columnOfReading) ∈ pt_Ts := pt_w_ok (i := 844) (by decide +kernel)
set_option maxRecDepth 100000 in
theorem wb_mi_Bench_columnOfReading : Cond.selects (pi_y mi_Bench_columnOfReading).cls (pi_y mi_Bench_columnOfReading) (pi_y mi_Bench_columnOfReading) ∈ pt_Ts := pt_s_ok (by decide +kernel)
set_option maxRecDepth 100000 in
theorem wa_mi_Sheet_columnOf : Cond.static (pi_y mi_Sheet_columnOf) ∈ pt_Ts := pt_w_ok (i := 847) (by decide +kernel)
set_option maxRecDepth 100000 in
theorem wa_mi_Bench_fill : Cond.instanceMethod (pi_y mi_Bench_fill) ∈ pt_Ts := pt_w_ok (i := 850) (by decide +kernel)
set_option maxRecDepth 100000 in
theorem wb_mi_Bench_fill : Cond.selects (pi_y mi_Bench_fill).cls (pi_y mi_Bench_fill) (pi_y mi_Bench_fill) ∈ pt_Ts := pt_w_ok (i := 851) (by decide +kernel)
set_option maxRecDepth 100000 in
theorem wa_mi_Sheet_write : Cond.instanceMethod (pi_y mi_Sheet_write) ∈ pt_Ts := pt_w_ok (i := 857) (by decide +kernel)
set_option maxRecDepth 100000 in
theorem wb_mi_Sheet_write : Cond.selects (pi_y mi_Sheet_write).cls (pi_y mi_Sheet_write) (pi_y mi_Sheet_write) ∈ pt_Ts := pt_w_ok (i := 858) (by decide +kernel)
set_option maxRecDepth 100000 in
theorem wa_mi_Bench_fits : Cond.instanceMethod (pi_y mi_Bench_fits) ∈ pt_Ts := pt_w_ok (i := 863) (by decide +kernel)
set_option maxRecDepth 100000 in
theorem wb_mi_Bench_fits : Cond.selects (pi_y mi_Bench_fits).cls (pi_y mi_Bench_fits) (pi_y mi_Bench_fits) ∈ pt_Ts := pt_s_ok (by decide +kernel)
set_option maxRecDepth 100000 in
theorem wa_mi_Sheet_written : Cond.instanceMethod (pi_y mi_Sheet_written) ∈ pt_Ts := pt_w_ok (i := 866) (by decide +kernel)
set_option maxRecDepth 100000 in
theorem wb_mi_Sheet_written : Cond.selects (pi_y mi_Sheet_written).cls (pi_y mi_Sheet_written) (pi_y mi_Sheet_written) ∈ pt_Ts := pt_w_ok (i := 867) (by decide +kernel)
set_option maxRecDepth 100000 in
theorem wa_mi_Sheet_addFit : Cond.instanceMethod (pi_y mi_Sheet_addFit) ∈ pt_Ts := pt_w_ok (i := 871) (by decide +kernel)
set_option maxRecDepth 100000 in
theorem wb_mi_Sheet_addFit : Cond.selects (pi_y mi_Sheet_addFit).cls (pi_y mi_Sheet_addFit) (pi_y mi_Sheet_addFit) ∈ pt_Ts := pt_w_ok (i := 872) (by decide +kernel)
set_option maxRecDepth 100000 in
theorem wa_mi_Sheet_fitAt : Cond.instanceMethod (pi_y mi_Sheet_fitAt) ∈ pt_Ts := pt_w_ok (i := 875) (by decide +kernel)
set_option maxRecDepth 100000 in
theorem wb_mi_Sheet_fitAt : Cond.selects (pi_y mi_Sheet_fitAt).cls (pi_y mi_Sheet_fitAt) (pi_y mi_Sheet_fitAt) ∈ pt_Ts := pt_w_ok (i := 876) (by decide +kernel)
set_option maxRecDepth 100000 in
theorem wa_mi_BP_fewest : Cond.instanceMethod (pi_y mi_BP_fewest) ∈ pt_Ts := pt_w_ok (i := 879) (by decide +kernel)
set_option maxRecDepth 100000 in
theorem wb_mi_BP_fewest : Cond.selects (pi_y mi_BP_fewest).cls (pi_y mi_BP_fewest) (pi_y mi_BP_fewest) ∈ pt_Ts := pt_w_ok (i := 880) (by decide +kernel)
set_option maxRecDepth 100000 in
theorem wa_mi_Sheet_smallest : Cond.instanceMethod (pi_y mi_Sheet_smallest) ∈ pt_Ts := pt_w_ok (i := 883) (by decide +kernel)
set_option maxRecDepth 100000 in
theorem wb_mi_Sheet_smallest : Cond.selects (pi_y mi_Sheet_smallest).cls (pi_y mi_Sheet_smallest) (pi_y mi_Sheet_smallest) ∈ pt_Ts := pt_w_ok (i := 884) (by decide +kernel)
set_option maxRecDepth 100000 in
theorem wa_mi_Sheet_comesBefore : Cond.static (pi_y mi_Sheet_comesBefore) ∈ pt_Ts := pt_w_ok (i := 888) (by decide +kernel)
set_option maxRecDepth 100000 in
theorem wa_mi_Int_bitCount : Cond.static (pi_y mi_Int_bitCount) ∈ pt_Ts := pt_w_ok (i := 891) (by decide +kernel)
set_option maxRecDepth 100000 in
theorem wa_mi_BP_sure : Cond.instanceMethod (pi_y mi_BP_sure) ∈ pt_Ts := pt_w_ok (i := 897) (by decide +kernel)
set_option maxRecDepth 100000 in
theorem wb_mi_BP_sure : Cond.selects (pi_y mi_BP_sure).cls (pi_y mi_BP_sure) (pi_y mi_BP_sure) ∈ pt_Ts := pt_w_ok (i := 898) (by decide +kernel)
set_option maxRecDepth 100000 in
theorem wa_mi_Sheet_inAll : Cond.instanceMethod (pi_y mi_Sheet_inAll) ∈ pt_Ts := pt_w_ok (i := 901) (by decide +kernel)
set_option maxRecDepth 100000 in
theorem wb_mi_Sheet_inAll : Cond.selects (pi_y mi_Sheet_inAll).cls (pi_y mi_Sheet_inAll) (pi_y mi_Sheet_inAll) ∈ pt_Ts := pt_w_ok (i := 902) (by decide +kernel)
set_option maxRecDepth 100000 in
theorem wa_mi_Sheet_inSome : Cond.instanceMethod (pi_y mi_Sheet_inSome) ∈ pt_Ts := pt_w_ok (i := 905) (by decide +kernel)
set_option maxRecDepth 100000 in
theorem wb_mi_Sheet_inSome : Cond.selects (pi_y mi_Sheet_inSome).cls (pi_y mi_Sheet_inSome) (pi_y mi_Sheet_inSome) ∈ pt_Ts := pt_w_ok (i := 906) (by decide +kernel)
set_option maxRecDepth 100000 in
theorem wa_mi_BP_parts : Cond.instanceMethod (pi_y mi_BP_parts) ∈ pt_Ts := pt_w_ok (i := 909) (by decide +kernel)
set_option maxRecDepth 100000 in
theorem wb_mi_BP_parts : Cond.selects (pi_y mi_BP_parts).cls (pi_y mi_BP_parts) (pi_y mi_BP_parts) ∈ pt_Ts := pt_w_ok (i := 910) (by decide +kernel)
set_option maxRecDepth 100000 in
theorem wa_mi_Bench_partFits : Cond.instanceMethod (pi_y mi_Bench_partFits) ∈ pt_Ts := pt_w_ok (i := 915) (by decide +kernel)
set_option maxRecDepth 100000 in
theorem wb_mi_Bench_partFits : Cond.selects (pi_y mi_Bench_partFits).cls (pi_y mi_Bench_partFits) (pi_y mi_Bench_partFits) ∈ pt_Ts := pt_w_ok (i := 916) (by decide +kernel)
set_option maxRecDepth 100000 in
theorem wa_mi_BP_next : Cond.instanceMethod (pi_y mi_BP_next) ∈ pt_Ts := pt_w_ok (i := 923) (by decide +kernel)
set_option maxRecDepth 100000 in
theorem wb_mi_BP_next : Cond.selects (pi_y mi_BP_next).cls (pi_y mi_BP_next) (pi_y mi_BP_next) ∈ pt_Ts := pt_w_ok (i := 924) (by decide +kernel)
set_option maxRecDepth 100000 in
theorem wa_mi_Bench_columnsOfAll : Cond.instanceMethod (pi_y mi_Bench_columnsOfAll) ∈ pt_Ts := pt_w_ok (i := 928) (by decide +kernel)
set_option maxRecDepth 100000 in
theorem wb_mi_Bench_columnsOfAll : Cond.selects (pi_y mi_Bench_columnsOfAll).cls (pi_y mi_Bench_columnsOfAll) (pi_y mi_Bench_columnsOfAll) ∈ pt_Ts := pt_w_ok (i := 929) (by decide +kernel)
set_option maxRecDepth 100000 in
theorem wa_mi_Bench_bestTest : Cond.instanceMethod (pi_y mi_Bench_bestTest) ∈ pt_Ts := pt_w_ok (i := 932) (by decide +kernel)
set_option maxRecDepth 100000 in
theorem wb_mi_Bench_bestTest : Cond.selects (pi_y mi_Bench_bestTest).cls (pi_y mi_Bench_bestTest) (pi_y mi_Bench_bestTest) ∈ pt_Ts := pt_w_ok (i := 933) (by decide +kernel)
set_option maxRecDepth 100000 in
theorem wa_mi_Plan_boxOfTest : Cond.instanceMethod (pi_y mi_Plan_boxOfTest) ∈ pt_Ts := pt_w_ok (i := 936) (by decide +kernel)
set_option maxRecDepth 100000 in
theorem wb_mi_Plan_boxOfTest : Cond.selects (pi_y mi_Plan_boxOfTest).cls (pi_y mi_Plan_boxOfTest) (pi_y mi_Plan_boxOfTest) ∈ pt_Ts := pt_w_ok (i := 937) (by decide +kernel)
set_option maxRecDepth 100000 in
theorem wa_mi_Plan_way : Cond.instanceMethod (pi_y mi_Plan_way) ∈ pt_Ts := pt_w_ok (i := 940) (by decide +kernel)
set_option maxRecDepth 100000 in
theorem wb_mi_Plan_way : Cond.selects (pi_y mi_Plan_way).cls (pi_y mi_Plan_way) (pi_y mi_Plan_way) ∈ pt_Ts := pt_w_ok (i := 941) (by decide +kernel)
set_option maxRecDepth 100000 in
theorem wa_mi_BP_walk : Cond.instanceMethod (pi_y mi_BP_walk) ∈ pt_Ts := pt_w_ok (i := 950) (by decide +kernel)
set_option maxRecDepth 100000 in
theorem wb_mi_BP_walk : Cond.selects (pi_y mi_BP_walk).cls (pi_y mi_BP_walk) (pi_y mi_BP_walk) ∈ pt_Ts := pt_w_ok (i := 951) (by decide +kernel)
set_option maxRecDepth 100000 in
theorem wa_mi_BP_distance : Cond.instanceMethod (pi_y mi_BP_distance) ∈ pt_Ts := pt_w_ok (i := 955) (by decide +kernel)
set_option maxRecDepth 100000 in
theorem wb_mi_BP_distance : Cond.selects (pi_y mi_BP_distance).cls (pi_y mi_BP_distance) (pi_y mi_BP_distance) ∈ pt_Ts := pt_w_ok (i := 956) (by decide +kernel)
set_option maxRecDepth 100000 in
theorem wa_mi_Bench_breakAt : Cond.instanceMethod (pi_y mi_Bench_breakAt) ∈ pt_Ts := pt_w_ok (i := 959) (by decide +kernel)
set_option maxRecDepth 100000 in
theorem wb_mi_Bench_breakAt : Cond.selects (pi_y mi_Bench_breakAt).cls (pi_y mi_Bench_breakAt) (pi_y mi_Bench_breakAt) ∈ pt_Ts := pt_w_ok (i := 960) (by decide +kernel)
set_option maxRecDepth 100000 in
theorem wa_mi_Bench_explains : Cond.instanceMethod (pi_y mi_Bench_explains) ∈ pt_Ts := pt_w_ok (i := 966) (by decide +kernel)
set_option maxRecDepth 100000 in
theorem wb_mi_Bench_explains : Cond.selects (pi_y mi_Bench_explains).cls (pi_y mi_Bench_explains) (pi_y mi_Bench_explains) ∈ pt_Ts := pt_s_ok (by decide +kernel)
set_option maxRecDepth 100000 in
theorem wa_mi_BP_want : Cond.instanceMethod (pi_y mi_BP_want) ∈ pt_Ts := pt_w_ok (i := 973) (by decide +kernel)
set_option maxRecDepth 100000 in
theorem wb_mi_BP_want : Cond.selects (pi_y mi_BP_want).cls (pi_y mi_BP_want) (pi_y mi_BP_want) ∈ pt_Ts := pt_w_ok (i := 974) (by decide +kernel)
set_option maxRecDepth 100000 in
theorem wa_mi_Plan_setWanted : Cond.instanceMethod (pi_y mi_Plan_setWanted) ∈ pt_Ts := pt_w_ok (i := 977) (by decide +kernel)
set_option maxRecDepth 100000 in
theorem wb_mi_Plan_setWanted : Cond.selects (pi_y mi_Plan_setWanted).cls (pi_y mi_Plan_setWanted) (pi_y mi_Plan_setWanted) ∈ pt_Ts := pt_w_ok (i := 978) (by decide +kernel)
set_option maxRecDepth 100000 in
theorem wa_mi_Plan_isWantedByOther : Cond.instanceMethod (pi_y mi_Plan_isWantedByOther) ∈ pt_Ts := pt_w_ok (i := 983) (by decide +kernel)
set_option maxRecDepth 100000 in
theorem wb_mi_Plan_isWantedByOther : Cond.selects (pi_y mi_Plan_isWantedByOther).cls (pi_y mi_Plan_isWantedByOther) (pi_y mi_Plan_isWantedByOther) ∈ pt_Ts := pt_s_ok (by decide +kernel)
set_option maxRecDepth 100000 in
theorem wa_mi_BP_moves : Cond.instanceMethod (pi_y mi_BP_moves) ∈ pt_Ts := pt_w_ok (i := 986) (by decide +kernel)
set_option maxRecDepth 100000 in
theorem wb_mi_BP_moves : Cond.selects (pi_y mi_BP_moves).cls (pi_y mi_BP_moves) (pi_y mi_BP_moves) ∈ pt_Ts := pt_w_ok (i := 987) (by decide +kernel)
set_option maxRecDepth 100000 in
theorem wa_mi_Mover_work : Cond.instanceMethod (pi_y mi_Mover_work) ∈ pt_Ts := pt_w_ok (i := 990) (by decide +kernel)
set_option maxRecDepth 100000 in
theorem wb_mi_Mover_work : Cond.selects (pi_y mi_Mover_work).cls (pi_y mi_Mover_work) (pi_y mi_Mover_work) ∈ pt_Ts := pt_w_ok (i := 991) (by decide +kernel)
set_option maxRecDepth 100000 in
theorem wa_mi_Mover_moveHome : Cond.instanceMethod (pi_y mi_Mover_moveHome) ∈ pt_Ts := pt_w_ok (i := 1000) (by decide +kernel)
set_option maxRecDepth 100000 in
theorem wb_mi_Mover_moveHome : Cond.selects (pi_y mi_Mover_moveHome).cls (pi_y mi_Mover_moveHome) (pi_y mi_Mover_moveHome) ∈ pt_Ts := pt_s_ok (by decide +kernel)
set_option maxRecDepth 100000 in
theorem wa_mi_Mover_freePairs : Cond.instanceMethod (pi_y mi_Mover_freePairs) ∈ pt_Ts := pt_w_ok (i := 1004) (by decide +kernel)
set_option maxRecDepth 100000 in
theorem wb_mi_Mover_freePairs : Cond.selects (pi_y mi_Mover_freePairs).cls (pi_y mi_Mover_freePairs) (pi_y mi_Mover_freePairs) ∈ pt_Ts := pt_s_ok (by decide +kernel)
set_option maxRecDepth 100000 in
theorem wa_mi_Mover_isAstray : Cond.instanceMethod (pi_y mi_Mover_isAstray) ∈ pt_Ts := pt_w_ok (i := 1008) (by decide +kernel)
set_option maxRecDepth 100000 in
theorem wb_mi_Mover_isAstray : Cond.selects (pi_y mi_Mover_isAstray).cls (pi_y mi_Mover_isAstray) (pi_y mi_Mover_isAstray) ∈ pt_Ts := pt_s_ok (by decide +kernel)
set_option maxRecDepth 100000 in
theorem wa_mi_Mover_move : Cond.instanceMethod (pi_y mi_Mover_move) ∈ pt_Ts := pt_w_ok (i := 1012) (by decide +kernel)
set_option maxRecDepth 100000 in
theorem wb_mi_Mover_move : Cond.selects (pi_y mi_Mover_move).cls (pi_y mi_Mover_move) (pi_y mi_Mover_move) ∈ pt_Ts := pt_s_ok (by decide +kernel)
set_option maxRecDepth 100000 in
theorem wa_mi_Mover_moveAside : Cond.instanceMethod (pi_y mi_Mover_moveAside) ∈ pt_Ts := pt_w_ok (i := 1016) (by decide +kernel)
set_option maxRecDepth 100000 in
theorem wb_mi_Mover_moveAside : Cond.selects (pi_y mi_Mover_moveAside).cls (pi_y mi_Mover_moveAside) (pi_y mi_Mover_moveAside) ∈ pt_Ts := pt_s_ok (by decide +kernel)
set_option maxRecDepth 100000 in
theorem wa_mi_Mover_houseOn : Cond.instanceMethod (pi_y mi_Mover_houseOn) ∈ pt_Ts := pt_w_ok (i := 1020) (by decide +kernel)
set_option maxRecDepth 100000 in
theorem wb_mi_Mover_houseOn : Cond.selects (pi_y mi_Mover_houseOn).cls (pi_y mi_Mover_houseOn) (pi_y mi_Mover_houseOn) ∈ pt_Ts := pt_s_ok (by decide +kernel)
set_option maxRecDepth 100000 in
theorem wa_mi_Mover_lowestOf : Cond.static (pi_y mi_Mover_lowestOf) ∈ pt_Ts := pt_w_ok (i := 1023) (by decide +kernel)
set_option maxRecDepth 100000 in
theorem wa_mi_Mover_moveAt : Cond.instanceMethod (pi_y mi_Mover_moveAt) ∈ pt_Ts := pt_w_ok (i := 1026) (by decide +kernel)
set_option maxRecDepth 100000 in
theorem wb_mi_Mover_moveAt : Cond.selects (pi_y mi_Mover_moveAt).cls (pi_y mi_Mover_moveAt) (pi_y mi_Mover_moveAt) ∈ pt_Ts := pt_w_ok (i := 1027) (by decide +kernel)
set_option maxRecDepth 100000 in
theorem wa_mi_BP_count : Cond.instanceMethod (pi_y mi_BP_count) ∈ pt_Ts := pt_w_ok (i := 1030) (by decide +kernel)
set_option maxRecDepth 100000 in
theorem wb_mi_BP_count : Cond.selects (pi_y mi_BP_count).cls (pi_y mi_BP_count) (pi_y mi_BP_count) ∈ pt_Ts := pt_w_ok (i := 1031) (by decide +kernel)
set_option maxRecDepth 100000 in
theorem wa_mi_BP_cable : Cond.instanceMethod (pi_y mi_BP_cable) ∈ pt_Ts := pt_w_ok (i := 1038) (by decide +kernel)
set_option maxRecDepth 100000 in
theorem wb_mi_BP_cable : Cond.selects (pi_y mi_BP_cable).cls (pi_y mi_BP_cable) (pi_y mi_BP_cable) ∈ pt_Ts := pt_w_ok (i := 1039) (by decide +kernel)
set_option maxRecDepth 100000 in
theorem wa_mi_M_init : Cond.instanceMethod (pi_y mi_M_init) ∈ pt_Ts := pt_w_ok (i := 1106) (by decide +kernel)
set_option maxRecDepth 100000 in
theorem wa_mi_M_thrown : Cond.instanceMethod (pi_y mi_M_thrown) ∈ pt_Ts := pt_w_ok (i := 1287) (by decide +kernel)
set_option maxRecDepth 100000 in
theorem wb_mi_M_thrown : Cond.selects (pi_y mi_M_thrown).cls (pi_y mi_M_thrown) (pi_y mi_M_thrown) ∈ pt_Ts := pt_w_ok (i := 1288) (by decide +kernel)
set_option maxRecDepth 100000 in
theorem wa_mi_M_feed : Cond.instanceMethod (pi_y mi_M_feed) ∈ pt_Ts := pt_w_ok (i := 1291) (by decide +kernel)
set_option maxRecDepth 100000 in
theorem wb_mi_M_feed : Cond.selects (pi_y mi_M_feed).cls (pi_y mi_M_feed) (pi_y mi_M_feed) ∈ pt_Ts := pt_w_ok (i := 1292) (by decide +kernel)
set_option maxRecDepth 100000 in
theorem wa_mi_M_bytesIn : Cond.static (pi_y mi_M_bytesIn) ∈ pt_Ts := pt_w_ok (i := 1295) (by decide +kernel)
set_option maxRecDepth 100000 in
theorem wa_mi_M_put : Cond.instanceMethod (pi_y mi_M_put) ∈ pt_Ts := pt_w_ok (i := 1299) (by decide +kernel)
set_option maxRecDepth 100000 in
theorem wb_mi_M_put : Cond.selects (pi_y mi_M_put).cls (pi_y mi_M_put) (pi_y mi_M_put) ∈ pt_Ts := pt_s_ok (by decide +kernel)
set_option maxRecDepth 100000 in
theorem wa_mi_M_end : Cond.instanceMethod (pi_y mi_M_end) ∈ pt_Ts := pt_w_ok (i := 1302) (by decide +kernel)
set_option maxRecDepth 100000 in
theorem wb_mi_M_end : Cond.selects (pi_y mi_M_end).cls (pi_y mi_M_end) (pi_y mi_M_end) ∈ pt_Ts := pt_w_ok (i := 1303) (by decide +kernel)
set_option maxRecDepth 100000 in
theorem wa_mi_M_fault : Cond.instanceMethod (pi_y mi_M_fault) ∈ pt_Ts := pt_w_ok (i := 1306) (by decide +kernel)
set_option maxRecDepth 100000 in
theorem wb_mi_M_fault : Cond.selects (pi_y mi_M_fault).cls (pi_y mi_M_fault) (pi_y mi_M_fault) ∈ pt_Ts := pt_w_ok (i := 1307) (by decide +kernel)
set_option maxRecDepth 100000 in
theorem wa_mi_M_readPlan : Cond.instanceMethod (pi_y mi_M_readPlan) ∈ pt_Ts := pt_w_ok (i := 1311) (by decide +kernel)
set_option maxRecDepth 100000 in
theorem wb_mi_M_readPlan : Cond.selects (pi_y mi_M_readPlan).cls (pi_y mi_M_readPlan) (pi_y mi_M_readPlan) ∈ pt_Ts := pt_s_ok (by decide +kernel)
set_option maxRecDepth 100000 in
theorem wa_mi_M_look : Cond.instanceMethod (pi_y mi_M_look) ∈ pt_Ts := pt_w_ok (i := 1315) (by decide +kernel)
set_option maxRecDepth 100000 in
theorem wb_mi_M_look : Cond.selects (pi_y mi_M_look).cls (pi_y mi_M_look) (pi_y mi_M_look) ∈ pt_Ts := pt_s_ok (by decide +kernel)
set_option maxRecDepth 100000 in
theorem wa_mi_M_here : Cond.instanceMethod (pi_y mi_M_here) ∈ pt_Ts := pt_w_ok (i := 1319) (by decide +kernel)
set_option maxRecDepth 100000 in
theorem wb_mi_M_here : Cond.selects (pi_y mi_M_here).cls (pi_y mi_M_here) (pi_y mi_M_here) ∈ pt_Ts := pt_s_ok (by decide +kernel)
set_option maxRecDepth 100000 in
theorem wa_mi_M_fails : Cond.instanceMethod (pi_y mi_M_fails) ∈ pt_Ts := pt_w_ok (i := 1323) (by decide +kernel)
set_option maxRecDepth 100000 in
theorem wb_mi_M_fails : Cond.selects (pi_y mi_M_fails).cls (pi_y mi_M_fails) (pi_y mi_M_fails) ∈ pt_Ts := pt_s_ok (by decide +kernel)
set_option maxRecDepth 100000 in
theorem wa_mi_M_number : Cond.instanceMethod (pi_y mi_M_number) ∈ pt_Ts := pt_w_ok (i := 1327) (by decide +kernel)
set_option maxRecDepth 100000 in
theorem wb_mi_M_number : Cond.selects (pi_y mi_M_number).cls (pi_y mi_M_number) (pi_y mi_M_number) ∈ pt_Ts := pt_s_ok (by decide +kernel)
set_option maxRecDepth 100000 in
theorem wa_mi_M_isDigit : Cond.instanceMethod (pi_y mi_M_isDigit) ∈ pt_Ts := pt_w_ok (i := 1331) (by decide +kernel)
set_option maxRecDepth 100000 in
theorem wb_mi_M_isDigit : Cond.selects (pi_y mi_M_isDigit).cls (pi_y mi_M_isDigit) (pi_y mi_M_isDigit) ∈ pt_Ts := pt_s_ok (by decide +kernel)
set_option maxRecDepth 100000 in
theorem wa_mi_M_isIn : Cond.static (pi_y mi_M_isIn) ∈ pt_Ts := pt_w_ok (i := 1334) (by decide +kernel)
set_option maxRecDepth 100000 in
theorem wa_mi_M_comesTo : Cond.instanceMethod (pi_y mi_M_comesTo) ∈ pt_Ts := pt_w_ok (i := 1338) (by decide +kernel)
set_option maxRecDepth 100000 in
theorem wb_mi_M_comesTo : Cond.selects (pi_y mi_M_comesTo).cls (pi_y mi_M_comesTo) (pi_y mi_M_comesTo) ∈ pt_Ts := pt_s_ok (by decide +kernel)
set_option maxRecDepth 100000 in
theorem wa_mi_M_readCable : Cond.instanceMethod (pi_y mi_M_readCable) ∈ pt_Ts := pt_w_ok (i := 1342) (by decide +kernel)
set_option maxRecDepth 100000 in
theorem wb_mi_M_readCable : Cond.selects (pi_y mi_M_readCable).cls (pi_y mi_M_readCable) (pi_y mi_M_readCable) ∈ pt_Ts := pt_s_ok (by decide +kernel)
set_option maxRecDepth 100000 in
theorem wa_mi_M_readTold : Cond.instanceMethod (pi_y mi_M_readTold) ∈ pt_Ts := pt_w_ok (i := 1346) (by decide +kernel)
set_option maxRecDepth 100000 in
theorem wb_mi_M_readTold : Cond.selects (pi_y mi_M_readTold).cls (pi_y mi_M_readTold) (pi_y mi_M_readTold) ∈ pt_Ts := pt_s_ok (by decide +kernel)
set_option maxRecDepth 100000 in
theorem wa_mi_M_tell : Cond.instanceMethod (pi_y mi_M_tell) ∈ pt_Ts := pt_w_ok (i := 1350) (by decide +kernel)
set_option maxRecDepth 100000 in
theorem wb_mi_M_tell : Cond.selects (pi_y mi_M_tell).cls (pi_y mi_M_tell) (pi_y mi_M_tell) ∈ pt_Ts := pt_s_ok (by decide +kernel)
set_option maxRecDepth 100000 in
theorem wa_mi_M_plan : Cond.instanceMethod (pi_y mi_M_plan) ∈ pt_Ts := pt_w_ok (i := 1353) (by decide +kernel)
set_option maxRecDepth 100000 in
theorem wb_mi_M_plan : Cond.selects (pi_y mi_M_plan).cls (pi_y mi_M_plan) (pi_y mi_M_plan) ∈ pt_Ts := pt_w_ok (i := 1354) (by decide +kernel)
set_option maxRecDepth 100000 in
theorem wa_mi_M_cable : Cond.instanceMethod (pi_y mi_M_cable) ∈ pt_Ts := pt_w_ok (i := 1357) (by decide +kernel)
set_option maxRecDepth 100000 in
theorem wb_mi_M_cable : Cond.selects (pi_y mi_M_cable).cls (pi_y mi_M_cable) (pi_y mi_M_cable) ∈ pt_Ts := pt_w_ok (i := 1358) (by decide +kernel)
set_option maxRecDepth 100000 in
theorem wa_mi_M_isCable : Cond.instanceMethod (pi_y mi_M_isCable) ∈ pt_Ts := pt_w_ok (i := 1362) (by decide +kernel)
set_option maxRecDepth 100000 in
theorem wb_mi_M_isCable : Cond.selects (pi_y mi_M_isCable).cls (pi_y mi_M_isCable) (pi_y mi_M_isCable) ∈ pt_Ts := pt_s_ok (by decide +kernel)
set_option maxRecDepth 100000 in
theorem wa_mi_M_isPlan : Cond.instanceMethod (pi_y mi_M_isPlan) ∈ pt_Ts := pt_w_ok (i := 1366) (by decide +kernel)
set_option maxRecDepth 100000 in
theorem wb_mi_M_isPlan : Cond.selects (pi_y mi_M_isPlan).cls (pi_y mi_M_isPlan) (pi_y mi_M_isPlan) ∈ pt_Ts := pt_s_ok (by decide +kernel)
set_option maxRecDepth 100000 in
theorem wa_mi_M_slip : Cond.instanceMethod (pi_y mi_M_slip) ∈ pt_Ts := pt_w_ok (i := 1369) (by decide +kernel)
set_option maxRecDepth 100000 in
theorem wb_mi_M_slip : Cond.selects (pi_y mi_M_slip).cls (pi_y mi_M_slip) (pi_y mi_M_slip) ∈ pt_Ts := pt_w_ok (i := 1370) (by decide +kernel)
set_option maxRecDepth 100000 in
theorem wa_mi_M_isPair : Cond.instanceMethod (pi_y mi_M_isPair) ∈ pt_Ts := pt_w_ok (i := 1374) (by decide +kernel)
set_option maxRecDepth 100000 in
theorem wb_mi_M_isPair : Cond.selects (pi_y mi_M_isPair).cls (pi_y mi_M_isPair) (pi_y mi_M_isPair) ∈ pt_Ts := pt_s_ok (by decide +kernel)
set_option maxRecDepth 100000 in
theorem wa_mi_M_trouble : Cond.instanceMethod (pi_y mi_M_trouble) ∈ pt_Ts := pt_w_ok (i := 1377) (by decide +kernel)
set_option maxRecDepth 100000 in
theorem wb_mi_M_trouble : Cond.selects (pi_y mi_M_trouble).cls (pi_y mi_M_trouble) (pi_y mi_M_trouble) ∈ pt_Ts := pt_w_ok (i := 1378) (by decide +kernel)
set_option maxRecDepth 100000 in
theorem wa_mi_M_troubles : Cond.instanceMethod (pi_y mi_M_troubles) ∈ pt_Ts := pt_w_ok (i := 1381) (by decide +kernel)
set_option maxRecDepth 100000 in
theorem wb_mi_M_troubles : Cond.selects (pi_y mi_M_troubles).cls (pi_y mi_M_troubles) (pi_y mi_M_troubles) ∈ pt_Ts := pt_w_ok (i := 1382) (by decide +kernel)
set_option maxRecDepth 100000 in
theorem wa_mi_M_heard : Cond.instanceMethod (pi_y mi_M_heard) ∈ pt_Ts := pt_w_ok (i := 1385) (by decide +kernel)
set_option maxRecDepth 100000 in
theorem wb_mi_M_heard : Cond.selects (pi_y mi_M_heard).cls (pi_y mi_M_heard) (pi_y mi_M_heard) ∈ pt_Ts := pt_w_ok (i := 1386) (by decide +kernel)
set_option maxRecDepth 100000 in
theorem wa_mi_M_isWorld : Cond.instanceMethod (pi_y mi_M_isWorld) ∈ pt_Ts := pt_w_ok (i := 1390) (by decide +kernel)
set_option maxRecDepth 100000 in
theorem wb_mi_M_isWorld : Cond.selects (pi_y mi_M_isWorld).cls (pi_y mi_M_isWorld) (pi_y mi_M_isWorld) ∈ pt_Ts := pt_s_ok (by decide +kernel)
set_option maxRecDepth 100000 in
theorem wa_mi_M_isEnd : Cond.static (pi_y mi_M_isEnd) ∈ pt_Ts := pt_w_ok (i := 1393) (by decide +kernel)
set_option maxRecDepth 100000 in
theorem wa_mi_M_lay : Cond.instanceMethod (pi_y mi_M_lay) ∈ pt_Ts := pt_w_ok (i := 1397) (by decide +kernel)
set_option maxRecDepth 100000 in
theorem wb_mi_M_lay : Cond.selects (pi_y mi_M_lay).cls (pi_y mi_M_lay) (pi_y mi_M_lay) ∈ pt_Ts := pt_s_ok (by decide +kernel)
set_option maxRecDepth 100000 in
theorem wa_mi_M_isUndone : Cond.instanceMethod (pi_y mi_M_isUndone) ∈ pt_Ts := pt_w_ok (i := 1401) (by decide +kernel)
set_option maxRecDepth 100000 in
theorem wb_mi_M_isUndone : Cond.selects (pi_y mi_M_isUndone).cls (pi_y mi_M_isUndone) (pi_y mi_M_isUndone) ∈ pt_Ts := pt_s_ok (by decide +kernel)
set_option maxRecDepth 100000 in
theorem wa_mi_M_isSo : Cond.instanceMethod (pi_y mi_M_isSo) ∈ pt_Ts := pt_w_ok (i := 1405) (by decide +kernel)
set_option maxRecDepth 100000 in
theorem wb_mi_M_isSo : Cond.selects (pi_y mi_M_isSo).cls (pi_y mi_M_isSo) (pi_y mi_M_isSo) ∈ pt_Ts := pt_s_ok (by decide +kernel)
set_option maxRecDepth 100000 in
theorem wa_mi_M_unhang : Cond.instanceMethod (pi_y mi_M_unhang) ∈ pt_Ts := pt_w_ok (i := 1409) (by decide +kernel)
set_option maxRecDepth 100000 in
theorem wb_mi_M_unhang : Cond.selects (pi_y mi_M_unhang).cls (pi_y mi_M_unhang) (pi_y mi_M_unhang) ∈ pt_Ts := pt_s_ok (by decide +kernel)
set_option maxRecDepth 100000 in
theorem wa_mi_M_unjoin : Cond.instanceMethod (pi_y mi_M_unjoin) ∈ pt_Ts := pt_w_ok (i := 1413) (by decide +kernel)
set_option maxRecDepth 100000 in
theorem wb_mi_M_unjoin : Cond.selects (pi_y mi_M_unjoin).cls (pi_y mi_M_unjoin) (pi_y mi_M_unjoin) ∈ pt_Ts := pt_s_ok (by decide +kernel)
set_option maxRecDepth 100000 in
theorem wa_mi_M_heardAt : Cond.instanceMethod (pi_y mi_M_heardAt) ∈ pt_Ts := pt_w_ok (i := 1417) (by decide +kernel)
set_option maxRecDepth 100000 in
theorem wb_mi_M_heardAt : Cond.selects (pi_y mi_M_heardAt).cls (pi_y mi_M_heardAt) (pi_y mi_M_heardAt) ∈ pt_Ts := pt_s_ok (by decide +kernel)
set_option maxRecDepth 100000 in
theorem wa_mi_M_nodeAt : Cond.instanceMethod (pi_y mi_M_nodeAt) ∈ pt_Ts := pt_w_ok (i := 1421) (by decide +kernel)
set_option maxRecDepth 100000 in
theorem wb_mi_M_nodeAt : Cond.selects (pi_y mi_M_nodeAt).cls (pi_y mi_M_nodeAt) (pi_y mi_M_nodeAt) ∈ pt_Ts := pt_s_ok (by decide +kernel)
set_option maxRecDepth 100000 in
theorem wa_mi_M_nearNode : Cond.instanceMethod (pi_y mi_M_nearNode) ∈ pt_Ts := pt_w_ok (i := 1425) (by decide +kernel)
set_option maxRecDepth 100000 in
theorem wb_mi_M_nearNode : Cond.selects (pi_y mi_M_nearNode).cls (pi_y mi_M_nearNode) (pi_y mi_M_nearNode) ∈ pt_Ts := pt_s_ok (by decide +kernel)
set_option maxRecDepth 100000 in
theorem wa_mi_M_node : Cond.static (pi_y mi_M_node) ∈ pt_Ts := pt_w_ok (i := 1428) (by decide +kernel)
set_option maxRecDepth 100000 in
theorem wa_mi_M_farNode : Cond.instanceMethod (pi_y mi_M_farNode) ∈ pt_Ts := pt_w_ok (i := 1432) (by decide +kernel)
set_option maxRecDepth 100000 in
theorem wb_mi_M_farNode : Cond.selects (pi_y mi_M_farNode).cls (pi_y mi_M_farNode) (pi_y mi_M_farNode) ∈ pt_Ts := pt_s_ok (by decide +kernel)
set_option maxRecDepth 100000 in
theorem wa_mi_M_cameAs : Cond.instanceMethod (pi_y mi_M_cameAs) ∈ pt_Ts := pt_w_ok (i := 1436) (by decide +kernel)
set_option maxRecDepth 100000 in
theorem wb_mi_M_cameAs : Cond.selects (pi_y mi_M_cameAs).cls (pi_y mi_M_cameAs) (pi_y mi_M_cameAs) ∈ pt_Ts := pt_s_ok (by decide +kernel)
set_option maxRecDepth 100000 in
theorem wa_mi_M_longOf : Cond.instanceMethod (pi_y mi_M_longOf) ∈ pt_Ts := pt_w_ok (i := 1440) (by decide +kernel)
set_option maxRecDepth 100000 in
theorem wb_mi_M_longOf : Cond.selects (pi_y mi_M_longOf).cls (pi_y mi_M_longOf) (pi_y mi_M_longOf) ∈ pt_Ts := pt_s_ok (by decide +kernel)
set_option maxRecDepth 100000 in
theorem wa_mi_M_breaksTo : Cond.instanceMethod (pi_y mi_M_breaksTo) ∈ pt_Ts := pt_w_ok (i := 1444) (by decide +kernel)
set_option maxRecDepth 100000 in
theorem wb_mi_M_breaksTo : Cond.selects (pi_y mi_M_breaksTo).cls (pi_y mi_M_breaksTo) (pi_y mi_M_breaksTo) ∈ pt_Ts := pt_s_ok (by decide +kernel)
set_option maxRecDepth 100000 in
theorem wa_mi_M_sound : Cond.instanceMethod (pi_y mi_M_sound) ∈ pt_Ts := pt_w_ok (i := 1448) (by decide +kernel)
set_option maxRecDepth 100000 in
theorem wb_mi_M_sound : Cond.selects (pi_y mi_M_sound).cls (pi_y mi_M_sound) (pi_y mi_M_sound) ∈ pt_Ts := pt_s_ok (by decide +kernel)
set_option maxRecDepth 100000 in
theorem wa_mi_M_links : Cond.instanceMethod (pi_y mi_M_links) ∈ pt_Ts := pt_w_ok (i := 1452) (by decide +kernel)
set_option maxRecDepth 100000 in
theorem wb_mi_M_links : Cond.selects (pi_y mi_M_links).cls (pi_y mi_M_links) (pi_y mi_M_links) ∈ pt_Ts := pt_s_ok (by decide +kernel)
set_option maxRecDepth 100000 in
theorem wa_mi_M_metres : Cond.instanceMethod (pi_y mi_M_metres) ∈ pt_Ts := pt_w_ok (i := 1455) (by decide +kernel)
set_option maxRecDepth 100000 in
theorem wb_mi_M_metres : Cond.selects (pi_y mi_M_metres).cls (pi_y mi_M_metres) (pi_y mi_M_metres) ∈ pt_Ts := pt_w_ok (i := 1456) (by decide +kernel)
set_option maxRecDepth 100000 in
theorem wa_mi_M_metresAt : Cond.instanceMethod (pi_y mi_M_metresAt) ∈ pt_Ts := pt_w_ok (i := 1460) (by decide +kernel)
set_option maxRecDepth 100000 in
theorem wb_mi_M_metresAt : Cond.selects (pi_y mi_M_metresAt).cls (pi_y mi_M_metresAt) (pi_y mi_M_metresAt) ∈ pt_Ts := pt_s_ok (by decide +kernel)
set_option maxRecDepth 100000 in
theorem wa_mi_M_firstTouch : Cond.instanceMethod (pi_y mi_M_firstTouch) ∈ pt_Ts := pt_w_ok (i := 1464) (by decide +kernel)
set_option maxRecDepth 100000 in
theorem wb_mi_M_firstTouch : Cond.selects (pi_y mi_M_firstTouch).cls (pi_y mi_M_firstTouch) (pi_y mi_M_firstTouch) ∈ pt_Ts := pt_s_ok (by decide +kernel)
set_option maxRecDepth 100000 in
theorem wa_mi_M_firstBreak : Cond.instanceMethod (pi_y mi_M_firstBreak) ∈ pt_Ts := pt_w_ok (i := 1468) (by decide +kernel)
set_option maxRecDepth 100000 in
theorem wb_mi_M_firstBreak : Cond.selects (pi_y mi_M_firstBreak).cls (pi_y mi_M_firstBreak) (pi_y mi_M_firstBreak) ∈ pt_Ts := pt_s_ok (by decide +kernel)
set_option maxRecDepth 100000 in
theorem wa_mi_M_joinedAhead : Cond.instanceMethod (pi_y mi_M_joinedAhead) ∈ pt_Ts := pt_w_ok (i := 1472) (by decide +kernel)
set_option maxRecDepth 100000 in
theorem wb_mi_M_joinedAhead : Cond.selects (pi_y mi_M_joinedAhead).cls (pi_y mi_M_joinedAhead) (pi_y mi_M_joinedAhead) ∈ pt_Ts := pt_s_ok (by decide +kernel)
set_option maxRecDepth 100000 in
theorem wa_mi_M_joint : Cond.instanceMethod (pi_y mi_M_joint) ∈ pt_Ts := pt_w_ok (i := 1475) (by decide +kernel)
set_option maxRecDepth 100000 in
theorem wb_mi_M_joint : Cond.selects (pi_y mi_M_joint).cls (pi_y mi_M_joint) (pi_y mi_M_joint) ∈ pt_Ts := pt_w_ok (i := 1476) (by decide +kernel)
set_option maxRecDepth 100000 in
theorem wa_mi_M_house : Cond.instanceMethod (pi_y mi_M_house) ∈ pt_Ts := pt_w_ok (i := 1479) (by decide +kernel)
set_option maxRecDepth 100000 in
theorem wb_mi_M_house : Cond.selects (pi_y mi_M_house).cls (pi_y mi_M_house) (pi_y mi_M_house) ∈ pt_Ts := pt_w_ok (i := 1480) (by decide +kernel)
set_option maxRecDepth 100000 in
theorem wa_mi_M_isNumberOfHouse : Cond.static (pi_y mi_M_isNumberOfHouse) ∈ pt_Ts := pt_w_ok (i := 1483) (by decide +kernel)
set_option maxRecDepth 100000 in
theorem wa_mi_M_hangsAt : Cond.instanceMethod (pi_y mi_M_hangsAt) ∈ pt_Ts := pt_w_ok (i := 1487) (by decide +kernel)
set_option maxRecDepth 100000 in
theorem wb_mi_M_hangsAt : Cond.selects (pi_y mi_M_hangsAt).cls (pi_y mi_M_hangsAt) (pi_y mi_M_hangsAt) ∈ pt_Ts := pt_s_ok (by decide +kernel)
set_option maxRecDepth 100000 in
theorem wa_mi_M_fed : Cond.instanceMethod (pi_y mi_M_fed) ∈ pt_Ts := pt_w_ok (i := 1490) (by decide +kernel)
set_option maxRecDepth 100000 in
theorem wb_mi_M_fed : Cond.selects (pi_y mi_M_fed).cls (pi_y mi_M_fed) (pi_y mi_M_fed) ∈ pt_Ts := pt_w_ok (i := 1491) (by decide +kernel)
set_option maxRecDepth 100000 in
theorem wa_mi_M_feeds : Cond.instanceMethod (pi_y mi_M_feeds) ∈ pt_Ts := pt_w_ok (i := 1496) (by decide +kernel)
set_option maxRecDepth 100000 in
theorem wb_mi_M_feeds : Cond.selects (pi_y mi_M_feeds).cls (pi_y mi_M_feeds) (pi_y mi_M_feeds) ∈ pt_Ts := pt_s_ok (by decide +kernel)
set_option maxRecDepth 100000 in
theorem wa_mi_M_served : Cond.instanceMethod (pi_y mi_M_served) ∈ pt_Ts := pt_w_ok (i := 1499) (by decide +kernel)
set_option maxRecDepth 100000 in
theorem wb_mi_M_served : Cond.selects (pi_y mi_M_served).cls (pi_y mi_M_served) (pi_y mi_M_served) ∈ pt_Ts := pt_w_ok (i := 1500) (by decide +kernel)
set_option maxRecDepth 100000 in
theorem wa_mi_M_neighbours : Cond.instanceMethod (pi_y mi_M_neighbours) ∈ pt_Ts := pt_w_ok (i := 1504) (by decide +kernel)
set_option maxRecDepth 100000 in
theorem wb_mi_M_neighbours : Cond.selects (pi_y mi_M_neighbours).cls (pi_y mi_M_neighbours) (pi_y mi_M_neighbours) ∈ pt_Ts := pt_w_ok (i := 1505) (by decide +kernel)
set_option maxRecDepth 100000 in
theorem wa_mi_M_spare : Cond.instanceMethod (pi_y mi_M_spare) ∈ pt_Ts := pt_w_ok (i := 1508) (by decide +kernel)
set_option maxRecDepth 100000 in
theorem wb_mi_M_spare : Cond.selects (pi_y mi_M_spare).cls (pi_y mi_M_spare) (pi_y mi_M_spare) ∈ pt_Ts := pt_w_ok (i := 1509) (by decide +kernel)
set_option maxRecDepth 100000 in
theorem wa_mi_M_test : Cond.instanceMethod (pi_y mi_M_test) ∈ pt_Ts := pt_w_ok (i := 1512) (by decide +kernel)
set_option maxRecDepth 100000 in
theorem wb_mi_M_test : Cond.selects (pi_y mi_M_test).cls (pi_y mi_M_test) (pi_y mi_M_test) ∈ pt_Ts := pt_w_ok (i := 1513) (by decide +kernel)
set_option maxRecDepth 100000 in
theorem wa_mi_M_tells : Cond.instanceMethod (pi_y mi_M_tells) ∈ pt_Ts := pt_w_ok (i := 1516) (by decide +kernel)
set_option maxRecDepth 100000 in
theorem wb_mi_M_tells : Cond.selects (pi_y mi_M_tells).cls (pi_y mi_M_tells) (pi_y mi_M_tells) ∈ pt_Ts := pt_w_ok (i := 1517) (by decide +kernel)
set_option maxRecDepth 100000 in
theorem wa_mi_M_isTest : Cond.instanceMethod (pi_y mi_M_isTest) ∈ pt_Ts := pt_w_ok (i := 1521) (by decide +kernel)
set_option maxRecDepth 100000 in
theorem wb_mi_M_isTest : Cond.selects (pi_y mi_M_isTest).cls (pi_y mi_M_isTest) (pi_y mi_M_isTest) ∈ pt_Ts := pt_s_ok (by decide +kernel)
set_option maxRecDepth 100000 in
theorem wa_mi_M_wouldIn : Cond.instanceMethod (pi_y mi_M_wouldIn) ∈ pt_Ts := pt_w_ok (i := 1525) (by decide +kernel)
set_option maxRecDepth 100000 in
theorem wb_mi_M_wouldIn : Cond.selects (pi_y mi_M_wouldIn).cls (pi_y mi_M_wouldIn) (pi_y mi_M_wouldIn) ∈ pt_Ts := pt_s_ok (by decide +kernel)
set_option maxRecDepth 100000 in
theorem wa_mi_M_would : Cond.instanceMethod (pi_y mi_M_would) ∈ pt_Ts := pt_w_ok (i := 1529) (by decide +kernel)
set_option maxRecDepth 100000 in
theorem wb_mi_M_would : Cond.selects (pi_y mi_M_would).cls (pi_y mi_M_would) (pi_y mi_M_would) ∈ pt_Ts := pt_s_ok (by decide +kernel)
set_option maxRecDepth 100000 in
theorem wa_mi_M_read : Cond.instanceMethod (pi_y mi_M_read) ∈ pt_Ts := pt_w_ok (i := 1532) (by decide +kernel)
set_option maxRecDepth 100000 in
theorem wb_mi_M_read : Cond.selects (pi_y mi_M_read).cls (pi_y mi_M_read) (pi_y mi_M_read) ∈ pt_Ts := pt_w_ok (i := 1533) (by decide +kernel)
set_option maxRecDepth 100000 in
theorem wa_mi_M_unread : Cond.instanceMethod (pi_y mi_M_unread) ∈ pt_Ts := pt_w_ok (i := 1536) (by decide +kernel)
set_option maxRecDepth 100000 in
theorem wb_mi_M_unread : Cond.selects (pi_y mi_M_unread).cls (pi_y mi_M_unread) (pi_y mi_M_unread) ∈ pt_Ts := pt_w_ok (i := 1537) (by decide +kernel)
set_option maxRecDepth 100000 in
theorem wa_mi_M_fitting : Cond.instanceMethod (pi_y mi_M_fitting) ∈ pt_Ts := pt_w_ok (i := 1540) (by decide +kernel)
set_option maxRecDepth 100000 in
theorem wb_mi_M_fitting : Cond.selects (pi_y mi_M_fitting).cls (pi_y mi_M_fitting) (pi_y mi_M_fitting) ∈ pt_Ts := pt_w_ok (i := 1541) (by decide +kernel)
set_option maxRecDepth 100000 in
theorem wa_mi_M_fits : Cond.instanceMethod (pi_y mi_M_fits) ∈ pt_Ts := pt_w_ok (i := 1545) (by decide +kernel)
set_option maxRecDepth 100000 in
theorem wb_mi_M_fits : Cond.selects (pi_y mi_M_fits).cls (pi_y mi_M_fits) (pi_y mi_M_fits) ∈ pt_Ts := pt_s_ok (by decide +kernel)
set_option maxRecDepth 100000 in
theorem wa_mi_M_fewest : Cond.instanceMethod (pi_y mi_M_fewest) ∈ pt_Ts := pt_w_ok (i := 1548) (by decide +kernel)
set_option maxRecDepth 100000 in
theorem wb_mi_M_fewest : Cond.selects (pi_y mi_M_fewest).cls (pi_y mi_M_fewest) (pi_y mi_M_fewest) ∈ pt_Ts := pt_w_ok (i := 1549) (by decide +kernel)
set_option maxRecDepth 100000 in
theorem wa_mi_M_sure : Cond.instanceMethod (pi_y mi_M_sure) ∈ pt_Ts := pt_w_ok (i := 1553) (by decide +kernel)
set_option maxRecDepth 100000 in
theorem wb_mi_M_sure : Cond.selects (pi_y mi_M_sure).cls (pi_y mi_M_sure) (pi_y mi_M_sure) ∈ pt_Ts := pt_w_ok (i := 1554) (by decide +kernel)
set_option maxRecDepth 100000 in
theorem wa_mi_M_parts : Cond.instanceMethod (pi_y mi_M_parts) ∈ pt_Ts := pt_w_ok (i := 1557) (by decide +kernel)
set_option maxRecDepth 100000 in
theorem wb_mi_M_parts : Cond.selects (pi_y mi_M_parts).cls (pi_y mi_M_parts) (pi_y mi_M_parts) ∈ pt_Ts := pt_w_ok (i := 1558) (by decide +kernel)
set_option maxRecDepth 100000 in
theorem wa_mi_M_layFits : Cond.instanceMethod (pi_y mi_M_layFits) ∈ pt_Ts := pt_w_ok (i := 1562) (by decide +kernel)
set_option maxRecDepth 100000 in
theorem wb_mi_M_layFits : Cond.selects (pi_y mi_M_layFits).cls (pi_y mi_M_layFits) (pi_y mi_M_layFits) ∈ pt_Ts := pt_s_ok (by decide +kernel)
set_option maxRecDepth 100000 in
theorem wa_mi_M_layParts : Cond.instanceMethod (pi_y mi_M_layParts) ∈ pt_Ts := pt_w_ok (i := 1566) (by decide +kernel)
set_option maxRecDepth 100000 in
theorem wb_mi_M_layParts : Cond.selects (pi_y mi_M_layParts).cls (pi_y mi_M_layParts) (pi_y mi_M_layParts) ∈ pt_Ts := pt_s_ok (by decide +kernel)
set_option maxRecDepth 100000 in
theorem wa_mi_M_walk : Cond.instanceMethod (pi_y mi_M_walk) ∈ pt_Ts := pt_w_ok (i := 1570) (by decide +kernel)
set_option maxRecDepth 100000 in
theorem wb_mi_M_walk : Cond.selects (pi_y mi_M_walk).cls (pi_y mi_M_walk) (pi_y mi_M_walk) ∈ pt_Ts := pt_w_ok (i := 1571) (by decide +kernel)
set_option maxRecDepth 100000 in
theorem wa_mi_M_walkOf : Cond.instanceMethod (pi_y mi_M_walkOf) ∈ pt_Ts := pt_w_ok (i := 1575) (by decide +kernel)
set_option maxRecDepth 100000 in
theorem wb_mi_M_walkOf : Cond.selects (pi_y mi_M_walkOf).cls (pi_y mi_M_walkOf) (pi_y mi_M_walkOf) ∈ pt_Ts := pt_s_ok (by decide +kernel)
set_option maxRecDepth 100000 in
theorem wa_mi_M_upTo : Cond.instanceMethod (pi_y mi_M_upTo) ∈ pt_Ts := pt_w_ok (i := 1579) (by decide +kernel)
set_option maxRecDepth 100000 in
theorem wb_mi_M_upTo : Cond.selects (pi_y mi_M_upTo).cls (pi_y mi_M_upTo) (pi_y mi_M_upTo) ∈ pt_Ts := pt_s_ok (by decide +kernel)
set_option maxRecDepth 100000 in
theorem wa_mi_M_up : Cond.instanceMethod (pi_y mi_M_up) ∈ pt_Ts := pt_w_ok (i := 1583) (by decide +kernel)
set_option maxRecDepth 100000 in
theorem wb_mi_M_up : Cond.selects (pi_y mi_M_up).cls (pi_y mi_M_up) (pi_y mi_M_up) ∈ pt_Ts := pt_s_ok (by decide +kernel)
set_option maxRecDepth 100000 in
theorem wa_mi_M_next : Cond.instanceMethod (pi_y mi_M_next) ∈ pt_Ts := pt_w_ok (i := 1586) (by decide +kernel)
set_option maxRecDepth 100000 in
theorem wb_mi_M_next : Cond.selects (pi_y mi_M_next).cls (pi_y mi_M_next) (pi_y mi_M_next) ∈ pt_Ts := pt_w_ok (i := 1587) (by decide +kernel)
set_option maxRecDepth 100000 in
theorem wa_mi_M_boxOf : Cond.instanceMethod (pi_y mi_M_boxOf) ∈ pt_Ts := pt_w_ok (i := 1591) (by decide +kernel)
set_option maxRecDepth 100000 in
theorem wb_mi_M_boxOf : Cond.selects (pi_y mi_M_boxOf).cls (pi_y mi_M_boxOf) (pi_y mi_M_boxOf) ∈ pt_Ts := pt_s_ok (by decide +kernel)
set_option maxRecDepth 100000 in
theorem wa_mi_M_distance : Cond.instanceMethod (pi_y mi_M_distance) ∈ pt_Ts := pt_w_ok (i := 1594) (by decide +kernel)
set_option maxRecDepth 100000 in
theorem wb_mi_M_distance : Cond.selects (pi_y mi_M_distance).cls (pi_y mi_M_distance) (pi_y mi_M_distance) ∈ pt_Ts := pt_w_ok (i := 1595) (by decide +kernel)
set_option maxRecDepth 100000 in
theorem wa_mi_M_want : Cond.instanceMethod (pi_y mi_M_want) ∈ pt_Ts := pt_w_ok (i := 1599) (by decide +kernel)
set_option maxRecDepth 100000 in
theorem wb_mi_M_want : Cond.selects (pi_y mi_M_want).cls (pi_y mi_M_want) (pi_y mi_M_want) ∈ pt_Ts := pt_w_ok (i := 1600) (by decide +kernel)
set_option maxRecDepth 100000 in
theorem wa_mi_M_moves : Cond.instanceMethod (pi_y mi_M_moves) ∈ pt_Ts := pt_w_ok (i := 1603) (by decide +kernel)
set_option maxRecDepth 100000 in
theorem wb_mi_M_moves : Cond.selects (pi_y mi_M_moves).cls (pi_y mi_M_moves) (pi_y mi_M_moves) ∈ pt_Ts := pt_w_ok (i := 1604) (by decide +kernel)
set_option maxRecDepth 100000 in
theorem wa_mi_M_goesHome : Cond.instanceMethod (pi_y mi_M_goesHome) ∈ pt_Ts := pt_w_ok (i := 1608) (by decide +kernel)
set_option maxRecDepth 100000 in
theorem wb_mi_M_goesHome : Cond.selects (pi_y mi_M_goesHome).cls (pi_y mi_M_goesHome) (pi_y mi_M_goesHome) ∈ pt_Ts := pt_s_ok (by decide +kernel)
set_option maxRecDepth 100000 in
theorem wa_mi_M_isAstray : Cond.instanceMethod (pi_y mi_M_isAstray) ∈ pt_Ts := pt_w_ok (i := 1612) (by decide +kernel)
set_option maxRecDepth 100000 in
theorem wb_mi_M_isAstray : Cond.selects (pi_y mi_M_isAstray).cls (pi_y mi_M_isAstray) (pi_y mi_M_isAstray) ∈ pt_Ts := pt_s_ok (by decide +kernel)
set_option maxRecDepth 100000 in
theorem wa_mi_M_pairOf : Cond.instanceMethod (pi_y mi_M_pairOf) ∈ pt_Ts := pt_w_ok (i := 1616) (by decide +kernel)
set_option maxRecDepth 100000 in
theorem wb_mi_M_pairOf : Cond.selects (pi_y mi_M_pairOf).cls (pi_y mi_M_pairOf) (pi_y mi_M_pairOf) ∈ pt_Ts := pt_s_ok (by decide +kernel)
set_option maxRecDepth 100000 in
theorem wa_mi_M_isFree : Cond.instanceMethod (pi_y mi_M_isFree) ∈ pt_Ts := pt_w_ok (i := 1620) (by decide +kernel)
set_option maxRecDepth 100000 in
theorem wb_mi_M_isFree : Cond.selects (pi_y mi_M_isFree).cls (pi_y mi_M_isFree) (pi_y mi_M_isFree) ∈ pt_Ts := pt_s_ok (by decide +kernel)
set_option maxRecDepth 100000 in
theorem wa_mi_M_goes : Cond.instanceMethod (pi_y mi_M_goes) ∈ pt_Ts := pt_w_ok (i := 1624) (by decide +kernel)
set_option maxRecDepth 100000 in
theorem wb_mi_M_goes : Cond.selects (pi_y mi_M_goes).cls (pi_y mi_M_goes) (pi_y mi_M_goes) ∈ pt_Ts := pt_s_ok (by decide +kernel)
set_option maxRecDepth 100000 in
theorem wa_mi_M_givesWay : Cond.instanceMethod (pi_y mi_M_givesWay) ∈ pt_Ts := pt_w_ok (i := 1628) (by decide +kernel)
set_option maxRecDepth 100000 in
theorem wb_mi_M_givesWay : Cond.selects (pi_y mi_M_givesWay).cls (pi_y mi_M_givesWay) (pi_y mi_M_givesWay) ∈ pt_Ts := pt_s_ok (by decide +kernel)
set_option maxRecDepth 100000 in
theorem wa_mi_M_count : Cond.instanceMethod (pi_y mi_M_count) ∈ pt_Ts := pt_w_ok (i := 1631) (by decide +kernel)
set_option maxRecDepth 100000 in
theorem wb_mi_M_count : Cond.selects (pi_y mi_M_count).cls (pi_y mi_M_count) (pi_y mi_M_count) ∈ pt_Ts := pt_w_ok (i := 1632) (by decide +kernel)
