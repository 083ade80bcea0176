theorem lw_t1 {w : Cond} (h : w ∈ tables_1_1) : w ∈ lw_tbl := by
  unfold lw_tbl tables_1
  exact List.mem_append_right _ (List.mem_append_left _ h)
theorem lw_t2 {w : Cond} (h : w ∈ tables_1_2) : w ∈ lw_tbl := by
  unfold lw_tbl tables_1
  exact List.mem_append_right _ (List.mem_append_right _ (List.mem_append_left _ h))
theorem lw_t3 {w : Cond} (h : w ∈ tables_1_3) : w ∈ lw_tbl := by
  unfold lw_tbl tables_1
  exact List.mem_append_right _ (List.mem_append_right _ (List.mem_append_right _ (List.mem_append_left _ h)))
theorem lw_t4 {w : Cond} (h : w ∈ tables_1_4) : w ∈ lw_tbl := by
  unfold lw_tbl tables_1
  exact List.mem_append_right _ (List.mem_append_right _ (List.mem_append_right _ (List.mem_append_right _ (List.mem_append_left _ h))))
theorem lw_t5 {w : Cond} (h : w ∈ tables_1_5) : w ∈ lw_tbl := by
  unfold lw_tbl tables_1
  exact List.mem_append_right _ (List.mem_append_right _ (List.mem_append_right _ (List.mem_append_right _ (List.mem_append_right _ (List.mem_append_left _ h)))))
theorem lw_t6 {w : Cond} (h : w ∈ tables_1_6) : w ∈ lw_tbl := by
  unfold lw_tbl tables_1
  exact List.mem_append_right _ (List.mem_append_right _ (List.mem_append_right _ (List.mem_append_right _ (List.mem_append_right _ (List.mem_append_right _ (List.mem_append_left _ h))))))
theorem lw_t7 {w : Cond} (h : w ∈ tables_1_7) : w ∈ lw_tbl := by
  unfold lw_tbl tables_1
  exact List.mem_append_right _ (List.mem_append_right _ (List.mem_append_right _ (List.mem_append_right _ (List.mem_append_right _ (List.mem_append_right _ (List.mem_append_right _ (List.mem_append_left _ h)))))))
theorem lw_t8 {w : Cond} (h : w ∈ tables_1_8) : w ∈ lw_tbl := by
  unfold lw_tbl tables_1
  exact List.mem_append_right _ (List.mem_append_right _ (List.mem_append_right _ (List.mem_append_right _ (List.mem_append_right _ (List.mem_append_right _ (List.mem_append_right _ (List.mem_append_right _ (h))))))))
def m_ga_init : gp_M := (⟨"GasTurn", "<init>", "()V"⟩, prog_1_method_1_code, 1, none, { frames := 2, cells := 54, slots := 1759, locals := 41 })
theorem o_ga_init : gp_mo m_ga_init 0 := ⟨by decide +kernel, by decide +kernel, by decide +kernel, lw_g_of (lw_t1 (List.mem_of_getElem? (i := 26) (rfl))) rfl, lw_g_of (lw_t1 (List.mem_of_getElem? (i := 1) (by decide +kernel))) rfl⟩
theorem i_ga_init : Cond.instanceMethod m_ga_init.1 ∈ lw_g := lw_g_of (lw_t1 (List.mem_of_getElem? (i := 25) (by decide +kernel))) rfl
def m_ne_init : gp_M := (⟨"GasTurn$Net", "<init>", "()V"⟩, prog_7_method_1_code, 1, none, { frames := 1, cells := 10, slots := 124, locals := 20 })
theorem o_ne_init : gp_mo m_ne_init 0 := ⟨by decide +kernel, by decide +kernel, by decide +kernel, lw_g_of (lw_t1 (List.mem_of_getElem? (i := 34) (rfl))) rfl, lw_g_of (lw_t1 (List.mem_of_getElem? (i := 2) (by decide +kernel))) rfl⟩
theorem i_ne_init : Cond.instanceMethod m_ne_init.1 ∈ lw_g := lw_g_of (lw_t1 (List.mem_of_getElem? (i := 33) (by decide +kernel))) rfl
def m_tr_init : gp_M := (⟨"GasTurn$Trace", "<init>", "()V"⟩, prog_12_method_1_code, 1, none, { frames := 1, cells := 1, slots := 20, locals := 20 })
theorem o_tr_init : gp_mo m_tr_init 0 := ⟨by decide +kernel, by decide +kernel, by decide +kernel, lw_g_of (lw_t1 (List.mem_of_getElem? (i := 99) (rfl))) rfl, lw_g_of (lw_t1 (List.mem_of_getElem? (i := 3) (by decide +kernel))) rfl⟩
theorem i_tr_init : Cond.instanceMethod m_tr_init.1 ∈ lw_g := lw_g_of (lw_t1 (List.mem_of_getElem? (i := 98) (by decide +kernel))) rfl
def m_se_init : gp_M := (⟨"GasTurn$Sectors", "<init>", "(LGasTurn$Net;)V"⟩, prog_10_method_1_code, 2, none, { frames := 1, cells := 7, slots := 417, locals := 20 })
theorem o_se_init : gp_mo m_se_init 1 := ⟨by decide +kernel, by decide +kernel, by decide +kernel, lw_g_of (lw_t1 (List.mem_of_getElem? (i := 118) (rfl))) rfl, lw_g_of (lw_t1 (List.mem_of_getElem? (i := 4) (by decide +kernel))) rfl⟩
theorem i_se_init : Cond.instanceMethod m_se_init.1 ∈ lw_g := lw_g_of (lw_t1 (List.mem_of_getElem? (i := 117) (by decide +kernel))) rfl
def m_du_init : gp_M := (⟨"GasTurn$Duty", "<init>", "()V"⟩, prog_2_method_1_code, 1, none, { frames := 1, cells := 8, slots := 152, locals := 20 })
theorem o_du_init : gp_mo m_du_init 0 := ⟨by decide +kernel, by decide +kernel, by decide +kernel, lw_g_of (lw_t1 (List.mem_of_getElem? (i := 168) (rfl))) rfl, lw_g_of (lw_t1 (List.mem_of_getElem? (i := 5) (by decide +kernel))) rfl⟩
theorem i_du_init : Cond.instanceMethod m_du_init.1 ∈ lw_g := lw_g_of (lw_t1 (List.mem_of_getElem? (i := 167) (by decide +kernel))) rfl
def m_la_init : gp_M := (⟨"GasTurn$Laws", "<init>", "()V"⟩, prog_6_method_1_code, 1, none, { frames := 1, cells := 7, slots := 113, locals := 20 })
theorem o_la_init : gp_mo m_la_init 0 := ⟨by decide +kernel, by decide +kernel, by decide +kernel, lw_g_of (lw_t1 (List.mem_of_getElem? (i := 216) (rfl))) rfl, lw_g_of (lw_t1 (List.mem_of_getElem? (i := 6) (by decide +kernel))) rfl⟩
theorem i_la_init : Cond.instanceMethod m_la_init.1 ∈ lw_g := lw_g_of (lw_t1 (List.mem_of_getElem? (i := 215) (by decide +kernel))) rfl
def m_sh_init : gp_M := (⟨"GasTurn$Sheets", "<init>", "()V"⟩, prog_11_method_1_code, 1, none, { frames := 1, cells := 6, slots := 129, locals := 20 })
theorem o_sh_init : gp_mo m_sh_init 0 := ⟨by decide +kernel, by decide +kernel, by decide +kernel, lw_g_of (lw_t2 (List.mem_of_getElem? (i := 12) (rfl))) rfl, lw_g_of (lw_t1 (List.mem_of_getElem? (i := 7) (by decide +kernel))) rfl⟩
theorem i_sh_init : Cond.instanceMethod m_sh_init.1 ∈ lw_g := lw_g_of (lw_t2 (List.mem_of_getElem? (i := 11) (by decide +kernel))) rfl
def m_ga_knot : gp_M := (⟨"GasTurn", "knot", "()I"⟩, prog_1_method_2_code, 1, some (FieldType.int), { frames := 0, cells := 0, slots := 0, locals := 0 })
theorem o_ga_knot : gp_mo m_ga_knot 0 := ⟨by decide +kernel, by decide +kernel, by decide +kernel, lw_g_of (lw_t2 (List.mem_of_getElem? (i := 93) (rfl))) rfl, lw_g_of (lw_t1 (List.mem_of_getElem? (i := 1) (by decide +kernel))) rfl⟩
theorem i_ga_knot : Cond.instanceMethod m_ga_knot.1 ∈ lw_g := lw_g_of (lw_t2 (List.mem_of_getElem? (i := 91) (by decide +kernel))) rfl
theorem v_ga_knot : Cond.selects m_ga_knot.1.cls m_ga_knot.1 m_ga_knot.1 ∈ lw_g := lw_g_of (lw_t2 (List.mem_of_getElem? (i := 92) (by decide +kernel))) rfl
def m_ga_pipe : gp_M := (⟨"GasTurn", "pipe", "(III)I"⟩, prog_1_method_3_code, 4, some (FieldType.int), { frames := 2, cells := 0, slots := 0, locals := 43 })
theorem o_ga_pipe : gp_mo m_ga_pipe 3 := ⟨by decide +kernel, by decide +kernel, by decide +kernel, lw_g_of (lw_t2 (List.mem_of_getElem? (i := 97) (rfl))) rfl, lw_g_of (lw_t1 (List.mem_of_getElem? (i := 1) (by decide +kernel))) rfl⟩
theorem i_ga_pipe : Cond.instanceMethod m_ga_pipe.1 ∈ lw_g := lw_g_of (lw_t2 (List.mem_of_getElem? (i := 95) (by decide +kernel))) rfl
theorem v_ga_pipe : Cond.selects m_ga_pipe.1.cls m_ga_pipe.1 m_ga_pipe.1 ∈ lw_g := lw_g_of (lw_t2 (List.mem_of_getElem? (i := 96) (by decide +kernel))) rfl
def m_ne_hasKnot : gp_M := (⟨"GasTurn$Net", "hasKnot", "(I)Z"⟩, prog_7_method_2_code, 2, some (FieldType.boolean), { frames := 1, cells := 0, slots := 0, locals := 22 })
theorem o_ne_hasKnot : gp_mo m_ne_hasKnot 1 := ⟨by decide +kernel, by decide +kernel, by decide +kernel, lw_g_of (lw_t2 (List.mem_of_getElem? (i := 101) (rfl))) rfl, lw_g_of (lw_t1 (List.mem_of_getElem? (i := 2) (by decide +kernel))) rfl⟩
theorem i_ne_hasKnot : Cond.instanceMethod m_ne_hasKnot.1 ∈ lw_g := lw_g_of (lw_t2 (List.mem_of_getElem? (i := 99) (by decide +kernel))) rfl
theorem v_ne_hasKnot : Cond.selects m_ne_hasKnot.1.cls m_ne_hasKnot.1 m_ne_hasKnot.1 ∈ lw_g := lw_g_of (lw_t2 (List.mem_of_getElem? (i := 100) (by decide +kernel))) rfl
def m_ga_isWithin : gp_M := (⟨"GasTurn", "isWithin", "(III)Z"⟩, prog_1_method_51_code, 3, some (FieldType.boolean), { frames := 0, cells := 0, slots := 0, locals := 0 })
theorem o_ga_isWithin : gp_mo m_ga_isWithin 3 := ⟨by decide +kernel, by decide +kernel, by decide +kernel, lw_g_of (lw_t2 (List.mem_of_getElem? (i := 104) (rfl))) rfl, lw_g_of (lw_t1 (List.mem_of_getElem? (i := 1) (by decide +kernel))) rfl⟩
theorem i_ga_isWithin : Cond.static m_ga_isWithin.1 ∈ lw_g := lw_g_of (lw_t2 (List.mem_of_getElem? (i := 103) (by decide +kernel))) rfl
def m_ga_isFlag : gp_M := (⟨"GasTurn", "isFlag", "(I)Z"⟩, prog_1_method_52_code, 1, some (FieldType.boolean), { frames := 0, cells := 0, slots := 0, locals := 0 })
theorem o_ga_isFlag : gp_mo m_ga_isFlag 1 := ⟨by decide +kernel, by decide +kernel, by decide +kernel, lw_g_of (lw_t2 (List.mem_of_getElem? (i := 107) (rfl))) rfl, lw_g_of (lw_t1 (List.mem_of_getElem? (i := 1) (by decide +kernel))) rfl⟩
theorem i_ga_isFlag : Cond.static m_ga_isFlag.1 ∈ lw_g := lw_g_of (lw_t2 (List.mem_of_getElem? (i := 106) (by decide +kernel))) rfl
def m_ne_addPipe : gp_M := (⟨"GasTurn$Net", "addPipe", "(IIZ)I"⟩, prog_7_method_6_code, 4, some (FieldType.int), { frames := 0, cells := 0, slots := 0, locals := 0 })
theorem o_ne_addPipe : gp_mo m_ne_addPipe 3 := ⟨by decide +kernel, by decide +kernel, by decide +kernel, lw_g_of (lw_t2 (List.mem_of_getElem? (i := 111) (rfl))) rfl, lw_g_of (lw_t1 (List.mem_of_getElem? (i := 2) (by decide +kernel))) rfl⟩
theorem i_ne_addPipe : Cond.instanceMethod m_ne_addPipe.1 ∈ lw_g := lw_g_of (lw_t2 (List.mem_of_getElem? (i := 109) (by decide +kernel))) rfl
theorem v_ne_addPipe : Cond.selects m_ne_addPipe.1.cls m_ne_addPipe.1 m_ne_addPipe.1 ∈ lw_g := lw_g_of (lw_t2 (List.mem_of_getElem? (i := 110) (by decide +kernel))) rfl
def m_ga_valve : gp_M := (⟨"GasTurn", "valve", "(II)I"⟩, prog_1_method_4_code, 4, some (FieldType.int), { frames := 2, cells := 0, slots := 0, locals := 44 })
theorem o_ga_valve : gp_mo m_ga_valve 2 := ⟨by decide +kernel, by decide +kernel, by decide +kernel, lw_g_of (lw_t2 (List.mem_of_getElem? (i := 115) (rfl))) rfl, lw_g_of (lw_t1 (List.mem_of_getElem? (i := 1) (by decide +kernel))) rfl⟩
theorem i_ga_valve : Cond.instanceMethod m_ga_valve.1 ∈ lw_g := lw_g_of (lw_t2 (List.mem_of_getElem? (i := 113) (by decide +kernel))) rfl
theorem v_ga_valve : Cond.selects m_ga_valve.1.cls m_ga_valve.1 m_ga_valve.1 ∈ lw_g := lw_g_of (lw_t2 (List.mem_of_getElem? (i := 114) (by decide +kernel))) rfl
def m_ne_hasPipe : gp_M := (⟨"GasTurn$Net", "hasPipe", "(I)Z"⟩, prog_7_method_3_code, 2, some (FieldType.boolean), { frames := 1, cells := 0, slots := 0, locals := 22 })
theorem o_ne_hasPipe : gp_mo m_ne_hasPipe 1 := ⟨by decide +kernel, by decide +kernel, by decide +kernel, lw_g_of (lw_t2 (List.mem_of_getElem? (i := 119) (rfl))) rfl, lw_g_of (lw_t1 (List.mem_of_getElem? (i := 2) (by decide +kernel))) rfl⟩
theorem i_ne_hasPipe : Cond.instanceMethod m_ne_hasPipe.1 ∈ lw_g := lw_g_of (lw_t2 (List.mem_of_getElem? (i := 117) (by decide +kernel))) rfl
theorem v_ne_hasPipe : Cond.selects m_ne_hasPipe.1.cls m_ne_hasPipe.1 m_ne_hasPipe.1 ∈ lw_g := lw_g_of (lw_t2 (List.mem_of_getElem? (i := 118) (by decide +kernel))) rfl
def m_ga_flag : gp_M := (⟨"GasTurn", "flag", "(Z)I"⟩, prog_1_method_54_code, 1, some (FieldType.int), { frames := 0, cells := 0, slots := 0, locals := 0 })
theorem o_ga_flag : gp_mo m_ga_flag 1 := ⟨by decide +kernel, by decide +kernel, by decide +kernel, lw_g_of (lw_t2 (List.mem_of_getElem? (i := 122) (rfl))) rfl, lw_g_of (lw_t1 (List.mem_of_getElem? (i := 1) (by decide +kernel))) rfl⟩
theorem i_ga_flag : Cond.static m_ga_flag.1 ∈ lw_g := lw_g_of (lw_t2 (List.mem_of_getElem? (i := 121) (by decide +kernel))) rfl
def m_ne_joinOpen : gp_M := (⟨"GasTurn$Net", "joinOpen", "()V"⟩, prog_7_method_7_code, 2, none, { frames := 1, cells := 0, slots := 0, locals := 23 })
theorem o_ne_joinOpen : gp_mo m_ne_joinOpen 0 := ⟨by decide +kernel, by decide +kernel, by decide +kernel, lw_g_of (lw_t2 (List.mem_of_getElem? (i := 126) (rfl))) rfl, lw_g_of (lw_t1 (List.mem_of_getElem? (i := 2) (by decide +kernel))) rfl⟩
theorem i_ne_joinOpen : Cond.instanceMethod m_ne_joinOpen.1 ∈ lw_g := lw_g_of (lw_t2 (List.mem_of_getElem? (i := 124) (by decide +kernel))) rfl
theorem v_ne_joinOpen : Cond.selects m_ne_joinOpen.1.cls m_ne_joinOpen.1 m_ne_joinOpen.1 ∈ lw_g := lw_g_of (lw_t2 (List.mem_of_getElem? (i := 125) (by decide +kernel))) rfl
def m_ar_fill : gp_M := (⟨"java/util/Arrays", "fill", "([II)V"⟩, prog_21_method_103_code, 4, none, { frames := 0, cells := 0, slots := 0, locals := 0 })
theorem o_ar_fill : gp_mo m_ar_fill 2 := ⟨by decide +kernel, by decide +kernel, by decide +kernel, lw_g_of (lw_t2 (List.mem_of_getElem? (i := 129) (rfl))) rfl, lw_g_of (lw_t1 (List.mem_of_getElem? (i := 9) (by decide +kernel))) rfl⟩
theorem i_ar_fill : Cond.static m_ar_fill.1 ∈ lw_g := lw_g_of (lw_t2 (List.mem_of_getElem? (i := 128) (by decide +kernel))) rfl
def m_ga_lost : gp_M := (⟨"GasTurn", "lost", "(I)I"⟩, prog_1_method_5_code, 3, some (FieldType.int), { frames := 2, cells := 0, slots := 0, locals := 44 })
theorem o_ga_lost : gp_mo m_ga_lost 1 := ⟨by decide +kernel, by decide +kernel, by decide +kernel, lw_g_of (lw_t2 (List.mem_of_getElem? (i := 133) (rfl))) rfl, lw_g_of (lw_t1 (List.mem_of_getElem? (i := 1) (by decide +kernel))) rfl⟩
theorem i_ga_lost : Cond.instanceMethod m_ga_lost.1 ∈ lw_g := lw_g_of (lw_t2 (List.mem_of_getElem? (i := 131) (by decide +kernel))) rfl
theorem v_ga_lost : Cond.selects m_ga_lost.1.cls m_ga_lost.1 m_ga_lost.1 ∈ lw_g := lw_g_of (lw_t2 (List.mem_of_getElem? (i := 132) (by decide +kernel))) rfl
def m_ga_pipeOf : gp_M := (⟨"GasTurn", "pipeOf", "(II)I"⟩, prog_1_method_6_code, 3, some (FieldType.int), { frames := 2, cells := 0, slots := 0, locals := 43 })
theorem o_ga_pipeOf : gp_mo m_ga_pipeOf 2 := ⟨by decide +kernel, by decide +kernel, by decide +kernel, lw_g_of (lw_t2 (List.mem_of_getElem? (i := 137) (rfl))) rfl, lw_g_of (lw_t1 (List.mem_of_getElem? (i := 1) (by decide +kernel))) rfl⟩
theorem i_ga_pipeOf : Cond.instanceMethod m_ga_pipeOf.1 ∈ lw_g := lw_g_of (lw_t2 (List.mem_of_getElem? (i := 135) (by decide +kernel))) rfl
theorem v_ga_pipeOf : Cond.selects m_ga_pipeOf.1.cls m_ga_pipeOf.1 m_ga_pipeOf.1 ∈ lw_g := lw_g_of (lw_t2 (List.mem_of_getElem? (i := 136) (by decide +kernel))) rfl
def m_ga_works : gp_M := (⟨"GasTurn", "works", "(III)I"⟩, prog_1_method_7_code, 4, some (FieldType.int), { frames := 2, cells := 0, slots := 0, locals := 43 })
theorem o_ga_works : gp_mo m_ga_works 3 := ⟨by decide +kernel, by decide +kernel, by decide +kernel, lw_g_of (lw_t2 (List.mem_of_getElem? (i := 141) (rfl))) rfl, lw_g_of (lw_t1 (List.mem_of_getElem? (i := 1) (by decide +kernel))) rfl⟩
theorem i_ga_works : Cond.instanceMethod m_ga_works.1 ∈ lw_g := lw_g_of (lw_t2 (List.mem_of_getElem? (i := 139) (by decide +kernel))) rfl
theorem v_ga_works : Cond.selects m_ga_works.1.cls m_ga_works.1 m_ga_works.1 ∈ lw_g := lw_g_of (lw_t2 (List.mem_of_getElem? (i := 140) (by decide +kernel))) rfl
def m_ne_addWork : gp_M := (⟨"GasTurn$Net", "addWork", "(III)I"⟩, prog_7_method_8_code, 4, some (FieldType.int), { frames := 0, cells := 0, slots := 0, locals := 0 })
theorem o_ne_addWork : gp_mo m_ne_addWork 3 := ⟨by decide +kernel, by decide +kernel, by decide +kernel, lw_g_of (lw_t2 (List.mem_of_getElem? (i := 146) (rfl))) rfl, lw_g_of (lw_t1 (List.mem_of_getElem? (i := 2) (by decide +kernel))) rfl⟩
theorem i_ne_addWork : Cond.instanceMethod m_ne_addWork.1 ∈ lw_g := lw_g_of (lw_t2 (List.mem_of_getElem? (i := 144) (by decide +kernel))) rfl
theorem v_ne_addWork : Cond.selects m_ne_addWork.1.cls m_ne_addWork.1 m_ne_addWork.1 ∈ lw_g := lw_g_of (lw_t2 (List.mem_of_getElem? (i := 145) (by decide +kernel))) rfl
def m_ga_close : gp_M := (⟨"GasTurn", "close", "(I)I"⟩, prog_1_method_8_code, 2, some (FieldType.int), { frames := 2, cells := 0, slots := 0, locals := 43 })
theorem o_ga_close : gp_mo m_ga_close 1 := ⟨by decide +kernel, by decide +kernel, by decide +kernel, lw_g_of (lw_t2 (List.mem_of_getElem? (i := 150) (rfl))) rfl, lw_g_of (lw_t1 (List.mem_of_getElem? (i := 1) (by decide +kernel))) rfl⟩
theorem i_ga_close : Cond.instanceMethod m_ga_close.1 ∈ lw_g := lw_g_of (lw_t2 (List.mem_of_getElem? (i := 148) (by decide +kernel))) rfl
theorem v_ga_close : Cond.selects m_ga_close.1.cls m_ga_close.1 m_ga_close.1 ∈ lw_g := lw_g_of (lw_t2 (List.mem_of_getElem? (i := 149) (by decide +kernel))) rfl
def m_ne_hasWork : gp_M := (⟨"GasTurn$Net", "hasWork", "(I)Z"⟩, prog_7_method_4_code, 2, some (FieldType.boolean), { frames := 1, cells := 0, slots := 0, locals := 22 })
theorem o_ne_hasWork : gp_mo m_ne_hasWork 1 := ⟨by decide +kernel, by decide +kernel, by decide +kernel, lw_g_of (lw_t2 (List.mem_of_getElem? (i := 154) (rfl))) rfl, lw_g_of (lw_t1 (List.mem_of_getElem? (i := 2) (by decide +kernel))) rfl⟩
theorem i_ne_hasWork : Cond.instanceMethod m_ne_hasWork.1 ∈ lw_g := lw_g_of (lw_t2 (List.mem_of_getElem? (i := 152) (by decide +kernel))) rfl
theorem v_ne_hasWork : Cond.selects m_ne_hasWork.1.cls m_ne_hasWork.1 m_ne_hasWork.1 ∈ lw_g := lw_g_of (lw_t2 (List.mem_of_getElem? (i := 153) (by decide +kernel))) rfl
def m_ga_work : gp_M := (⟨"GasTurn", "work", "(II)I"⟩, prog_1_method_9_code, 3, some (FieldType.int), { frames := 5, cells := 0, slots := 0, locals := 110 })
theorem o_ga_work : gp_mo m_ga_work 2 := ⟨by decide +kernel, by decide +kernel, by decide +kernel, lw_g_of (lw_t2 (List.mem_of_getElem? (i := 158) (rfl))) rfl, lw_g_of (lw_t1 (List.mem_of_getElem? (i := 1) (by decide +kernel))) rfl⟩
theorem i_ga_work : Cond.instanceMethod m_ga_work.1 ∈ lw_g := lw_g_of (lw_t2 (List.mem_of_getElem? (i := 156) (by decide +kernel))) rfl
theorem v_ga_work : Cond.selects m_ga_work.1.cls m_ga_work.1 m_ga_work.1 ∈ lw_g := lw_g_of (lw_t2 (List.mem_of_getElem? (i := 157) (by decide +kernel))) rfl
def m_ga_isSpared : gp_M := (⟨"GasTurn", "isSpared", "(I)Z"⟩, prog_1_method_60_code, 3, some (FieldType.boolean), { frames := 4, cells := 0, slots := 0, locals := 88 })
theorem o_ga_isSpared : gp_mo m_ga_isSpared 1 := ⟨by decide +kernel, by decide +kernel, by decide +kernel, lw_g_of (lw_t2 (List.mem_of_getElem? (i := 162) (rfl))) rfl, lw_g_of (lw_t1 (List.mem_of_getElem? (i := 1) (by decide +kernel))) rfl⟩
theorem i_ga_isSpared : Cond.instanceMethod m_ga_isSpared.1 ∈ lw_g := lw_g_of (lw_t2 (List.mem_of_getElem? (i := 161) (by decide +kernel))) rfl
theorem v_ga_isSpared : Cond.selects m_ga_isSpared.1.cls m_ga_isSpared.1 m_ga_isSpared.1 ∈ lw_g := lw_g_of (List.mem_append_left _ (List.mem_map.mpr ⟨(m_ga_isSpared.1, 20), by decide +kernel, rfl⟩)) rfl
def m_ne_areaOf : gp_M := (⟨"GasTurn$Net", "areaOf", "(I)I"⟩, prog_7_method_10_code, 2, some (FieldType.int), { frames := 3, cells := 0, slots := 0, locals := 67 })
theorem o_ne_areaOf : gp_mo m_ne_areaOf 1 := ⟨by decide +kernel, by decide +kernel, by decide +kernel, lw_g_of (lw_t2 (List.mem_of_getElem? (i := 166) (rfl))) rfl, lw_g_of (lw_t1 (List.mem_of_getElem? (i := 2) (by decide +kernel))) rfl⟩
theorem i_ne_areaOf : Cond.instanceMethod m_ne_areaOf.1 ∈ lw_g := lw_g_of (lw_t2 (List.mem_of_getElem? (i := 164) (by decide +kernel))) rfl
theorem v_ne_areaOf : Cond.selects m_ne_areaOf.1.cls m_ne_areaOf.1 m_ne_areaOf.1 ∈ lw_g := lw_g_of (lw_t2 (List.mem_of_getElem? (i := 165) (by decide +kernel))) rfl
def m_ne_allKnots : gp_M := (⟨"GasTurn$Net", "allKnots", "()I"⟩, prog_7_method_5_code, 1, some (FieldType.int), { frames := 0, cells := 0, slots := 0, locals := 0 })
theorem o_ne_allKnots : gp_mo m_ne_allKnots 0 := ⟨by decide +kernel, by decide +kernel, by decide +kernel, lw_g_of (lw_t2 (List.mem_of_getElem? (i := 170) (rfl))) rfl, lw_g_of (lw_t1 (List.mem_of_getElem? (i := 2) (by decide +kernel))) rfl⟩
theorem i_ne_allKnots : Cond.instanceMethod m_ne_allKnots.1 ∈ lw_g := lw_g_of (lw_t2 (List.mem_of_getElem? (i := 168) (by decide +kernel))) rfl
theorem v_ne_allKnots : Cond.selects m_ne_allKnots.1.cls m_ne_allKnots.1 m_ne_allKnots.1 ∈ lw_g := lw_g_of (lw_t2 (List.mem_of_getElem? (i := 169) (by decide +kernel))) rfl
def m_ne_spread : gp_M := (⟨"GasTurn$Net", "spread", "(II[I)I"⟩, prog_7_method_9_code, 8, some (FieldType.int), { frames := 2, cells := 0, slots := 0, locals := 40 })
theorem o_ne_spread : gp_mo m_ne_spread 3 := ⟨by decide +kernel, by decide +kernel, by decide +kernel, lw_g_of (lw_t2 (List.mem_of_getElem? (i := 174) (rfl))) rfl, lw_g_of (lw_t1 (List.mem_of_getElem? (i := 2) (by decide +kernel))) rfl⟩
theorem i_ne_spread : Cond.instanceMethod m_ne_spread.1 ∈ lw_g := lw_g_of (lw_t2 (List.mem_of_getElem? (i := 172) (by decide +kernel))) rfl
theorem v_ne_spread : Cond.selects m_ne_spread.1.cls m_ne_spread.1 m_ne_spread.1 ∈ lw_g := lw_g_of (lw_t2 (List.mem_of_getElem? (i := 173) (by decide +kernel))) rfl
def m_ga_lowestIn : gp_M := (⟨"GasTurn", "lowestIn", "(I)I"⟩, prog_1_method_56_code, 1, some (FieldType.int), { frames := 1, cells := 0, slots := 0, locals := 20 })
theorem o_ga_lowestIn : gp_mo m_ga_lowestIn 1 := ⟨by decide +kernel, by decide +kernel, by decide +kernel, lw_g_of (lw_t2 (List.mem_of_getElem? (i := 177) (rfl))) rfl, lw_g_of (lw_t1 (List.mem_of_getElem? (i := 1) (by decide +kernel))) rfl⟩
theorem i_ga_lowestIn : Cond.static m_ga_lowestIn.1 ∈ lw_g := lw_g_of (lw_t2 (List.mem_of_getElem? (i := 176) (by decide +kernel))) rfl
def m_in_bitCount : gp_M := (⟨"java/lang/Integer", "bitCount", "(I)I"⟩, prog_15_method_49_code, 1, some (FieldType.int), { frames := 0, cells := 0, slots := 0, locals := 0 })
theorem o_in_bitCount : gp_mo m_in_bitCount 1 := ⟨by decide +kernel, by decide +kernel, by decide +kernel, lw_g_of (lw_t2 (List.mem_of_getElem? (i := 180) (rfl))) rfl, lw_g_of (lw_t1 (List.mem_of_getElem? (i := 10) (by decide +kernel))) rfl⟩
theorem i_in_bitCount : Cond.static m_in_bitCount.1 ∈ lw_g := lw_g_of (lw_t2 (List.mem_of_getElem? (i := 179) (by decide +kernel))) rfl
def m_ne_makeIn : gp_M := (⟨"GasTurn$Net", "makeIn", "(I)I"⟩, prog_7_method_15_code, 4, some (FieldType.int), { frames := 1, cells := 0, slots := 0, locals := 21 })
theorem o_ne_makeIn : gp_mo m_ne_makeIn 1 := ⟨by decide +kernel, by decide +kernel, by decide +kernel, lw_g_of (lw_t2 (List.mem_of_getElem? (i := 187) (rfl))) rfl, lw_g_of (lw_t1 (List.mem_of_getElem? (i := 2) (by decide +kernel))) rfl⟩
theorem i_ne_makeIn : Cond.instanceMethod m_ne_makeIn.1 ∈ lw_g := lw_g_of (lw_t2 (List.mem_of_getElem? (i := 185) (by decide +kernel))) rfl
theorem v_ne_makeIn : Cond.selects m_ne_makeIn.1.cls m_ne_makeIn.1 m_ne_makeIn.1 ∈ lw_g := lw_g_of (lw_t2 (List.mem_of_getElem? (i := 186) (by decide +kernel))) rfl
def m_ga_hasBit : gp_M := (⟨"GasTurn", "hasBit", "(II)Z"⟩, prog_1_method_55_code, 2, some (FieldType.boolean), { frames := 0, cells := 0, slots := 0, locals := 0 })
theorem o_ga_hasBit : gp_mo m_ga_hasBit 2 := ⟨by decide +kernel, by decide +kernel, by decide +kernel, lw_g_of (lw_t2 (List.mem_of_getElem? (i := 190) (rfl))) rfl, lw_g_of (lw_t1 (List.mem_of_getElem? (i := 1) (by decide +kernel))) rfl⟩
theorem i_ga_hasBit : Cond.static m_ga_hasBit.1 ∈ lw_g := lw_g_of (lw_t2 (List.mem_of_getElem? (i := 189) (by decide +kernel))) rfl
def m_ga_useIn : gp_M := (⟨"GasTurn", "useIn", "(IZ)I"⟩, prog_1_method_71_code, 6, some (FieldType.int), { frames := 1, cells := 0, slots := 0, locals := 21 })
theorem o_ga_useIn : gp_mo m_ga_useIn 2 := ⟨by decide +kernel, by decide +kernel, by decide +kernel, lw_g_of (lw_t2 (List.mem_of_getElem? (i := 194) (rfl))) rfl, lw_g_of (lw_t1 (List.mem_of_getElem? (i := 1) (by decide +kernel))) rfl⟩
theorem i_ga_useIn : Cond.instanceMethod m_ga_useIn.1 ∈ lw_g := lw_g_of (lw_t2 (List.mem_of_getElem? (i := 193) (by decide +kernel))) rfl
theorem v_ga_useIn : Cond.selects m_ga_useIn.1.cls m_ga_useIn.1 m_ga_useIn.1 ∈ lw_g := lw_g_of (List.mem_append_left _ (List.mem_map.mpr ⟨(m_ga_useIn.1, 20), by decide +kernel, rfl⟩)) rfl
def m_ga_terminal : gp_M := (⟨"GasTurn", "terminal", "(I)I"⟩, prog_1_method_10_code, 3, some (FieldType.int), { frames := 2, cells := 0, slots := 0, locals := 43 })
theorem o_ga_terminal : gp_mo m_ga_terminal 1 := ⟨by decide +kernel, by decide +kernel, by decide +kernel, lw_g_of (lw_t2 (List.mem_of_getElem? (i := 199) (rfl))) rfl, lw_g_of (lw_t1 (List.mem_of_getElem? (i := 1) (by decide +kernel))) rfl⟩
theorem i_ga_terminal : Cond.instanceMethod m_ga_terminal.1 ∈ lw_g := lw_g_of (lw_t2 (List.mem_of_getElem? (i := 197) (by decide +kernel))) rfl
theorem v_ga_terminal : Cond.selects m_ga_terminal.1.cls m_ga_terminal.1 m_ga_terminal.1 ∈ lw_g := lw_g_of (lw_t2 (List.mem_of_getElem? (i := 198) (by decide +kernel))) rfl
def m_ga_gas : gp_M := (⟨"GasTurn", "gas", "(I)I"⟩, prog_1_method_11_code, 2, some (FieldType.int), { frames := 4, cells := 0, slots := 0, locals := 89 })
theorem o_ga_gas : gp_mo m_ga_gas 1 := ⟨by decide +kernel, by decide +kernel, by decide +kernel, lw_g_of (lw_t2 (List.mem_of_getElem? (i := 203) (rfl))) rfl, lw_g_of (lw_t1 (List.mem_of_getElem? (i := 1) (by decide +kernel))) rfl⟩
theorem i_ga_gas : Cond.instanceMethod m_ga_gas.1 ∈ lw_g := lw_g_of (lw_t2 (List.mem_of_getElem? (i := 201) (by decide +kernel))) rfl
theorem v_ga_gas : Cond.selects m_ga_gas.1.cls m_ga_gas.1 m_ga_gas.1 ∈ lw_g := lw_g_of (lw_t2 (List.mem_of_getElem? (i := 202) (by decide +kernel))) rfl
def m_ne_oldReach : gp_M := (⟨"GasTurn$Net", "oldReach", "()I"⟩, prog_7_method_11_code, 3, some (FieldType.int), { frames := 3, cells := 0, slots := 0, locals := 67 })
theorem o_ne_oldReach : gp_mo m_ne_oldReach 0 := ⟨by decide +kernel, by decide +kernel, by decide +kernel, lw_g_of (lw_t2 (List.mem_of_getElem? (i := 207) (rfl))) rfl, lw_g_of (lw_t1 (List.mem_of_getElem? (i := 2) (by decide +kernel))) rfl⟩
theorem i_ne_oldReach : Cond.instanceMethod m_ne_oldReach.1 ∈ lw_g := lw_g_of (lw_t2 (List.mem_of_getElem? (i := 205) (by decide +kernel))) rfl
theorem v_ne_oldReach : Cond.selects m_ne_oldReach.1.cls m_ne_oldReach.1 m_ne_oldReach.1 ∈ lw_g := lw_g_of (lw_t2 (List.mem_of_getElem? (i := 206) (by decide +kernel))) rfl
def m_ne_newReach : gp_M := (⟨"GasTurn$Net", "newReach", "()I"⟩, prog_7_method_12_code, 1, some (FieldType.int), { frames := 3, cells := 0, slots := 0, locals := 67 })
theorem o_ne_newReach : gp_mo m_ne_newReach 0 := ⟨by decide +kernel, by decide +kernel, by decide +kernel, lw_g_of (lw_t2 (List.mem_of_getElem? (i := 211) (rfl))) rfl, lw_g_of (lw_t1 (List.mem_of_getElem? (i := 2) (by decide +kernel))) rfl⟩
theorem i_ne_newReach : Cond.instanceMethod m_ne_newReach.1 ∈ lw_g := lw_g_of (lw_t2 (List.mem_of_getElem? (i := 209) (by decide +kernel))) rfl
theorem v_ne_newReach : Cond.selects m_ne_newReach.1.cls m_ne_newReach.1 m_ne_newReach.1 ∈ lw_g := lw_g_of (lw_t2 (List.mem_of_getElem? (i := 210) (by decide +kernel))) rfl
def m_ne_terminalBit : gp_M := (⟨"GasTurn$Net", "terminalBit", "()I"⟩, prog_7_method_14_code, 1, some (FieldType.int), { frames := 0, cells := 0, slots := 0, locals := 0 })
theorem o_ne_terminalBit : gp_mo m_ne_terminalBit 0 := ⟨by decide +kernel, by decide +kernel, by decide +kernel, lw_g_of (lw_t2 (List.mem_of_getElem? (i := 215) (rfl))) rfl, lw_g_of (lw_t1 (List.mem_of_getElem? (i := 2) (by decide +kernel))) rfl⟩
theorem i_ne_terminalBit : Cond.instanceMethod m_ne_terminalBit.1 ∈ lw_g := lw_g_of (lw_t2 (List.mem_of_getElem? (i := 214) (by decide +kernel))) rfl
theorem v_ne_terminalBit : Cond.selects m_ne_terminalBit.1.cls m_ne_terminalBit.1 m_ne_terminalBit.1 ∈ lw_g := lw_g_of (List.mem_append_left _ (List.mem_map.mpr ⟨(m_ne_terminalBit.1, 14), by decide +kernel, rfl⟩)) rfl
def m_ga_gasAt : gp_M := (⟨"GasTurn", "gasAt", "(III)I"⟩, prog_1_method_58_code, 3, some (FieldType.int), { frames := 1, cells := 0, slots := 0, locals := 21 })
theorem o_ga_gasAt : gp_mo m_ga_gasAt 3 := ⟨by decide +kernel, by decide +kernel, by decide +kernel, lw_g_of (lw_t2 (List.mem_of_getElem? (i := 218) (rfl))) rfl, lw_g_of (lw_t1 (List.mem_of_getElem? (i := 1) (by decide +kernel))) rfl⟩
theorem i_ga_gasAt : Cond.static m_ga_gasAt.1 ∈ lw_g := lw_g_of (lw_t2 (List.mem_of_getElem? (i := 217) (by decide +kernel))) rfl
def m_ga_area : gp_M := (⟨"GasTurn", "area", "(I)I"⟩, prog_1_method_12_code, 2, some (FieldType.int), { frames := 4, cells := 0, slots := 0, locals := 88 })
theorem o_ga_area : gp_mo m_ga_area 1 := ⟨by decide +kernel, by decide +kernel, by decide +kernel, lw_g_of (lw_t2 (List.mem_of_getElem? (i := 222) (rfl))) rfl, lw_g_of (lw_t1 (List.mem_of_getElem? (i := 1) (by decide +kernel))) rfl⟩
theorem i_ga_area : Cond.instanceMethod m_ga_area.1 ∈ lw_g := lw_g_of (lw_t2 (List.mem_of_getElem? (i := 220) (by decide +kernel))) rfl
theorem v_ga_area : Cond.selects m_ga_area.1.cls m_ga_area.1 m_ga_area.1 ∈ lw_g := lw_g_of (lw_t2 (List.mem_of_getElem? (i := 221) (by decide +kernel))) rfl
def m_ga_pressure : gp_M := (⟨"GasTurn", "pressure", "(I)I"⟩, prog_1_method_13_code, 6, some (FieldType.int), { frames := 4, cells := 0, slots := 0, locals := 89 })
theorem o_ga_pressure : gp_mo m_ga_pressure 1 := ⟨by decide +kernel, by decide +kernel, by decide +kernel, lw_g_of (lw_t2 (List.mem_of_getElem? (i := 226) (rfl))) rfl, lw_g_of (lw_t1 (List.mem_of_getElem? (i := 1) (by decide +kernel))) rfl⟩
theorem i_ga_pressure : Cond.instanceMethod m_ga_pressure.1 ∈ lw_g := lw_g_of (lw_t2 (List.mem_of_getElem? (i := 224) (by decide +kernel))) rfl
theorem v_ga_pressure : Cond.selects m_ga_pressure.1.cls m_ga_pressure.1 m_ga_pressure.1 ∈ lw_g := lw_g_of (lw_t2 (List.mem_of_getElem? (i := 225) (by decide +kernel))) rfl
def m_ga_stepsUpTo : gp_M := (⟨"GasTurn", "stepsUpTo", "(I)I"⟩, prog_1_method_59_code, 4, some (FieldType.int), { frames := 0, cells := 0, slots := 0, locals := 0 })
theorem o_ga_stepsUpTo : gp_mo m_ga_stepsUpTo 1 := ⟨by decide +kernel, by decide +kernel, by decide +kernel, lw_g_of (lw_t2 (List.mem_of_getElem? (i := 230) (rfl))) rfl, lw_g_of (lw_t1 (List.mem_of_getElem? (i := 1) (by decide +kernel))) rfl⟩
theorem i_ga_stepsUpTo : Cond.instanceMethod m_ga_stepsUpTo.1 ∈ lw_g := lw_g_of (lw_t2 (List.mem_of_getElem? (i := 229) (by decide +kernel))) rfl
theorem v_ga_stepsUpTo : Cond.selects m_ga_stepsUpTo.1.cls m_ga_stepsUpTo.1 m_ga_stepsUpTo.1 ∈ lw_g := lw_g_of (List.mem_append_left _ (List.mem_map.mpr ⟨(m_ga_stepsUpTo.1, 20), by decide +kernel, rfl⟩)) rfl
def m_ga_step : gp_M := (⟨"GasTurn", "step", "(II)I"⟩, prog_1_method_14_code, 4, some (FieldType.int), { frames := 1, cells := 0, slots := 0, locals := 22 })
theorem o_ga_step : gp_mo m_ga_step 2 := ⟨by decide +kernel, by decide +kernel, by decide +kernel, lw_g_of (lw_t2 (List.mem_of_getElem? (i := 234) (rfl))) rfl, lw_g_of (lw_t1 (List.mem_of_getElem? (i := 1) (by decide +kernel))) rfl⟩
theorem i_ga_step : Cond.instanceMethod m_ga_step.1 ∈ lw_g := lw_g_of (lw_t2 (List.mem_of_getElem? (i := 232) (by decide +kernel))) rfl
theorem v_ga_step : Cond.selects m_ga_step.1.cls m_ga_step.1 m_ga_step.1 ∈ lw_g := lw_g_of (lw_t2 (List.mem_of_getElem? (i := 233) (by decide +kernel))) rfl
def m_ga_model : gp_M := (⟨"GasTurn", "model", "(IIIII)I"⟩, prog_1_method_15_code, 6, some (FieldType.int), { frames := 5, cells := 1, slots := 6, locals := 123 })
theorem o_ga_model : gp_mo m_ga_model 5 := ⟨by decide +kernel, by decide +kernel, by decide +kernel, lw_g_of (lw_t2 (List.mem_of_getElem? (i := 238) (rfl))) rfl, lw_g_of (lw_t1 (List.mem_of_getElem? (i := 1) (by decide +kernel))) rfl⟩
theorem i_ga_model : Cond.instanceMethod m_ga_model.1 ∈ lw_g := lw_g_of (lw_t2 (List.mem_of_getElem? (i := 236) (by decide +kernel))) rfl
theorem v_ga_model : Cond.selects m_ga_model.1.cls m_ga_model.1 m_ga_model.1 ∈ lw_g := lw_g_of (lw_t2 (List.mem_of_getElem? (i := 237) (by decide +kernel))) rfl
def m_ga_isJet : gp_M := (⟨"GasTurn", "isJet", "(I)Z"⟩, prog_1_method_53_code, 1, some (FieldType.boolean), { frames := 1, cells := 0, slots := 0, locals := 22 })
theorem o_ga_isJet : gp_mo m_ga_isJet 1 := ⟨by decide +kernel, by decide +kernel, by decide +kernel, lw_g_of (lw_t3 (List.mem_of_getElem? (i := 1) (rfl))) rfl, lw_g_of (lw_t1 (List.mem_of_getElem? (i := 1) (by decide +kernel))) rfl⟩
theorem i_ga_isJet : Cond.static m_ga_isJet.1 ∈ lw_g := lw_g_of (lw_t3 (List.mem_of_getElem? (i := 0) (by decide +kernel))) rfl
def m_ga_newModel : gp_M := (⟨"GasTurn", "newModel", "(IIIII)LGasTurn$Ring;"⟩, prog_1_method_63_code, 6, some ((FieldType.object "GasTurn$Ring")), { frames := 4, cells := 1, slots := 6, locals := 98 })
theorem o_ga_newModel : gp_mo m_ga_newModel 5 := ⟨by decide +kernel, by decide +kernel, by decide +kernel, lw_g_of (lw_t3 (List.mem_of_getElem? (i := 5) (rfl))) rfl, lw_g_of (lw_t1 (List.mem_of_getElem? (i := 1) (by decide +kernel))) rfl⟩
theorem i_ga_newModel : Cond.instanceMethod m_ga_newModel.1 ∈ lw_g := lw_g_of (lw_t3 (List.mem_of_getElem? (i := 4) (by decide +kernel))) rfl
theorem v_ga_newModel : Cond.selects m_ga_newModel.1.cls m_ga_newModel.1 m_ga_newModel.1 ∈ lw_g := lw_g_of (List.mem_append_left _ (List.mem_map.mpr ⟨(m_ga_newModel.1, 20), by decide +kernel, rfl⟩)) rfl
def m_ov_init : gp_M := (⟨"GasTurn$Oven", "<init>", "(LGasTurn$Trace;IIIII)V"⟩, prog_8_method_1_code, 7, none, { frames := 2, cells := 0, slots := 0, locals := 46 })
theorem o_ov_init : gp_mo m_ov_init 6 := ⟨by decide +kernel, by decide +kernel, by decide +kernel, lw_g_of (lw_t3 (List.mem_of_getElem? (i := 10) (rfl))) rfl, lw_g_of (lw_t1 (List.mem_of_getElem? (i := 12) (by decide +kernel))) rfl⟩
theorem i_ov_init : Cond.instanceMethod m_ov_init.1 ∈ lw_g := lw_g_of (lw_t3 (List.mem_of_getElem? (i := 9) (by decide +kernel))) rfl
def m_ri_init : gp_M := (⟨"GasTurn$Ring", "<init>", "(LGasTurn$Trace;IIIII)V"⟩, prog_9_method_1_code, 7, none, { frames := 1, cells := 0, slots := 0, locals := 20 })
theorem o_ri_init : gp_mo m_ri_init 6 := ⟨by decide +kernel, by decide +kernel, by decide +kernel, lw_g_of (lw_t3 (List.mem_of_getElem? (i := 13) (rfl))) rfl, lw_g_of (lw_t1 (List.mem_of_getElem? (i := 11) (by decide +kernel))) rfl⟩
theorem i_ri_init : Cond.instanceMethod m_ri_init.1 ∈ lw_g := lw_g_of (lw_t3 (List.mem_of_getElem? (i := 12) (by decide +kernel))) rfl
def m_gr_init : gp_M := (⟨"GasTurn$Grill", "<init>", "(LGasTurn$Trace;IIIII)V"⟩, prog_4_method_1_code, 7, none, { frames := 3, cells := 0, slots := 0, locals := 72 })
theorem o_gr_init : gp_mo m_gr_init 6 := ⟨by decide +kernel, by decide +kernel, by decide +kernel, lw_g_of (lw_t3 (List.mem_of_getElem? (i := 53) (rfl))) rfl, lw_g_of (lw_t1 (List.mem_of_getElem? (i := 13) (by decide +kernel))) rfl⟩
theorem i_gr_init : Cond.instanceMethod m_gr_init.1 ∈ lw_g := lw_g_of (lw_t3 (List.mem_of_getElem? (i := 52) (by decide +kernel))) rfl
def m_fi_init : gp_M := (⟨"GasTurn$Fire", "<init>", "(LGasTurn$Trace;IIIII)V"⟩, prog_3_method_1_code, 7, none, { frames := 2, cells := 0, slots := 0, locals := 46 })
theorem o_fi_init : gp_mo m_fi_init 6 := ⟨by decide +kernel, by decide +kernel, by decide +kernel, lw_g_of (lw_t3 (List.mem_of_getElem? (i := 66) (rfl))) rfl, lw_g_of (lw_t1 (List.mem_of_getElem? (i := 14) (by decide +kernel))) rfl⟩
theorem i_fi_init : Cond.instanceMethod m_fi_init.1 ∈ lw_g := lw_g_of (lw_t3 (List.mem_of_getElem? (i := 65) (by decide +kernel))) rfl
def m_ga_home : gp_M := (⟨"GasTurn", "home", "(IIII)I"⟩, prog_1_method_16_code, 6, some (FieldType.int), { frames := 2, cells := 1, slots := 10, locals := 44 })
theorem o_ga_home : gp_mo m_ga_home 4 := ⟨by decide +kernel, by decide +kernel, by decide +kernel, lw_g_of (lw_t3 (List.mem_of_getElem? (i := 87) (rfl))) rfl, lw_g_of (lw_t1 (List.mem_of_getElem? (i := 1) (by decide +kernel))) rfl⟩
theorem i_ga_home : Cond.instanceMethod m_ga_home.1 ∈ lw_g := lw_g_of (lw_t3 (List.mem_of_getElem? (i := 85) (by decide +kernel))) rfl
theorem v_ga_home : Cond.selects m_ga_home.1.cls m_ga_home.1 m_ga_home.1 ∈ lw_g := lw_g_of (lw_t3 (List.mem_of_getElem? (i := 86) (by decide +kernel))) rfl
def m_ga_modelAt : gp_M := (⟨"GasTurn", "modelAt", "(I)LGasTurn$Ring;"⟩, prog_1_method_62_code, 2, some ((FieldType.object "GasTurn$Ring")), { frames := 1, cells := 0, slots := 0, locals := 22 })
theorem o_ga_modelAt : gp_mo m_ga_modelAt 1 := ⟨by decide +kernel, by decide +kernel, by decide +kernel, lw_g_of (lw_t3 (List.mem_of_getElem? (i := 91) (rfl))) rfl, lw_g_of (lw_t1 (List.mem_of_getElem? (i := 1) (by decide +kernel))) rfl⟩
theorem i_ga_modelAt : Cond.instanceMethod m_ga_modelAt.1 ∈ lw_g := lw_g_of (lw_t3 (List.mem_of_getElem? (i := 90) (by decide +kernel))) rfl
theorem v_ga_modelAt : Cond.selects m_ga_modelAt.1.cls m_ga_modelAt.1 m_ga_modelAt.1 ∈ lw_g := lw_g_of (List.mem_append_left _ (List.mem_map.mpr ⟨(m_ga_modelAt.1, 20), by decide +kernel, rfl⟩)) rfl
def m_ho_init : gp_M := (⟨"GasTurn$Home", "<init>", "(IIILGasTurn$Ring;)V"⟩, prog_5_method_1_code, 5, none, { frames := 1, cells := 0, slots := 0, locals := 20 })
theorem o_ho_init : gp_mo m_ho_init 4 := ⟨by decide +kernel, by decide +kernel, by decide +kernel, lw_g_of (lw_t3 (List.mem_of_getElem? (i := 95) (rfl))) rfl, lw_g_of (lw_t1 (List.mem_of_getElem? (i := 15) (by decide +kernel))) rfl⟩
theorem i_ho_init : Cond.instanceMethod m_ho_init.1 ∈ lw_g := lw_g_of (lw_t3 (List.mem_of_getElem? (i := 94) (by decide +kernel))) rfl
def m_ga_survey : gp_M := (⟨"GasTurn", "survey", "(II)I"⟩, prog_1_method_17_code, 4, some (FieldType.int), { frames := 2, cells := 0, slots := 0, locals := 43 })
theorem o_ga_survey : gp_mo m_ga_survey 2 := ⟨by decide +kernel, by decide +kernel, by decide +kernel, lw_g_of (lw_t3 (List.mem_of_getElem? (i := 139) (rfl))) rfl, lw_g_of (lw_t1 (List.mem_of_getElem? (i := 1) (by decide +kernel))) rfl⟩
theorem i_ga_survey : Cond.instanceMethod m_ga_survey.1 ∈ lw_g := lw_g_of (lw_t3 (List.mem_of_getElem? (i := 137) (by decide +kernel))) rfl
theorem v_ga_survey : Cond.selects m_ga_survey.1.cls m_ga_survey.1 m_ga_survey.1 ∈ lw_g := lw_g_of (lw_t3 (List.mem_of_getElem? (i := 138) (by decide +kernel))) rfl
def m_ga_homeAt : gp_M := (⟨"GasTurn", "homeAt", "(I)LGasTurn$Home;"⟩, prog_1_method_61_code, 2, some ((FieldType.object "GasTurn$Home")), { frames := 1, cells := 0, slots := 0, locals := 22 })
theorem o_ga_homeAt : gp_mo m_ga_homeAt 1 := ⟨by decide +kernel, by decide +kernel, by decide +kernel, lw_g_of (lw_t3 (List.mem_of_getElem? (i := 143) (rfl))) rfl, lw_g_of (lw_t1 (List.mem_of_getElem? (i := 1) (by decide +kernel))) rfl⟩
theorem i_ga_homeAt : Cond.instanceMethod m_ga_homeAt.1 ∈ lw_g := lw_g_of (lw_t3 (List.mem_of_getElem? (i := 142) (by decide +kernel))) rfl
theorem v_ga_homeAt : Cond.selects m_ga_homeAt.1.cls m_ga_homeAt.1 m_ga_homeAt.1 ∈ lw_g := lw_g_of (List.mem_append_left _ (List.mem_map.mpr ⟨(m_ga_homeAt.1, 20), by decide +kernel, rfl⟩)) rfl
def m_ga_addSurvey : gp_M := (⟨"GasTurn", "addSurvey", "(LGasTurn$Home;I)I"⟩, prog_1_method_65_code, 3, some (FieldType.int), { frames := 1, cells := 0, slots := 0, locals := 20 })
theorem o_ga_addSurvey : gp_mo m_ga_addSurvey 2 := ⟨by decide +kernel, by decide +kernel, by decide +kernel, lw_g_of (lw_t3 (List.mem_of_getElem? (i := 147) (rfl))) rfl, lw_g_of (lw_t1 (List.mem_of_getElem? (i := 1) (by decide +kernel))) rfl⟩
theorem i_ga_addSurvey : Cond.instanceMethod m_ga_addSurvey.1 ∈ lw_g := lw_g_of (lw_t3 (List.mem_of_getElem? (i := 146) (by decide +kernel))) rfl
theorem v_ga_addSurvey : Cond.selects m_ga_addSurvey.1.cls m_ga_addSurvey.1 m_ga_addSurvey.1 ∈ lw_g := lw_g_of (List.mem_append_left _ (List.mem_map.mpr ⟨(m_ga_addSurvey.1, 20), by decide +kernel, rfl⟩)) rfl
def m_ga_allModels : gp_M := (⟨"GasTurn", "allModels", "()I"⟩, prog_1_method_66_code, 1, some (FieldType.int), { frames := 0, cells := 0, slots := 0, locals := 0 })
theorem o_ga_allModels : gp_mo m_ga_allModels 0 := ⟨by decide +kernel, by decide +kernel, by decide +kernel, lw_g_of (lw_t3 (List.mem_of_getElem? (i := 151) (rfl))) rfl, lw_g_of (lw_t1 (List.mem_of_getElem? (i := 1) (by decide +kernel))) rfl⟩
theorem i_ga_allModels : Cond.instanceMethod m_ga_allModels.1 ∈ lw_g := lw_g_of (lw_t3 (List.mem_of_getElem? (i := 150) (by decide +kernel))) rfl
theorem v_ga_allModels : Cond.selects m_ga_allModels.1.cls m_ga_allModels.1 m_ga_allModels.1 ∈ lw_g := lw_g_of (List.mem_append_left _ (List.mem_map.mpr ⟨(m_ga_allModels.1, 20), by decide +kernel, rfl⟩)) rfl
def m_ga_lay : gp_M := (⟨"GasTurn", "lay", "(IIII)I"⟩, prog_1_method_18_code, 6, some (FieldType.int), { frames := 2, cells := 0, slots := 0, locals := 44 })
theorem o_ga_lay : gp_mo m_ga_lay 4 := ⟨by decide +kernel, by decide +kernel, by decide +kernel, lw_g_of (lw_t3 (List.mem_of_getElem? (i := 155) (rfl))) rfl, lw_g_of (lw_t1 (List.mem_of_getElem? (i := 1) (by decide +kernel))) rfl⟩
theorem i_ga_lay : Cond.instanceMethod m_ga_lay.1 ∈ lw_g := lw_g_of (lw_t3 (List.mem_of_getElem? (i := 153) (by decide +kernel))) rfl
theorem v_ga_lay : Cond.selects m_ga_lay.1.cls m_ga_lay.1 m_ga_lay.1 ∈ lw_g := lw_g_of (lw_t3 (List.mem_of_getElem? (i := 154) (by decide +kernel))) rfl
def m_sh_has : gp_M := (⟨"GasTurn$Sheets", "has", "(I)Z"⟩, prog_11_method_2_code, 2, some (FieldType.boolean), { frames := 1, cells := 0, slots := 0, locals := 22 })
theorem o_sh_has : gp_mo m_sh_has 1 := ⟨by decide +kernel, by decide +kernel, by decide +kernel, lw_g_of (lw_t3 (List.mem_of_getElem? (i := 159) (rfl))) rfl, lw_g_of (lw_t1 (List.mem_of_getElem? (i := 7) (by decide +kernel))) rfl⟩
theorem i_sh_has : Cond.instanceMethod m_sh_has.1 ∈ lw_g := lw_g_of (lw_t3 (List.mem_of_getElem? (i := 157) (by decide +kernel))) rfl
theorem v_sh_has : Cond.selects m_sh_has.1.cls m_sh_has.1 m_sh_has.1 ∈ lw_g := lw_g_of (lw_t3 (List.mem_of_getElem? (i := 158) (by decide +kernel))) rfl
def m_sh_isMissing : gp_M := (⟨"GasTurn$Sheets", "isMissing", "(I)Z"⟩, prog_11_method_3_code, 2, some (FieldType.boolean), { frames := 0, cells := 0, slots := 0, locals := 0 })
theorem o_sh_isMissing : gp_mo m_sh_isMissing 1 := ⟨by decide +kernel, by decide +kernel, by decide +kernel, lw_g_of (lw_t3 (List.mem_of_getElem? (i := 164) (rfl))) rfl, lw_g_of (lw_t1 (List.mem_of_getElem? (i := 7) (by decide +kernel))) rfl⟩
theorem i_sh_isMissing : Cond.instanceMethod m_sh_isMissing.1 ∈ lw_g := lw_g_of (lw_t3 (List.mem_of_getElem? (i := 162) (by decide +kernel))) rfl
theorem v_sh_isMissing : Cond.selects m_sh_isMissing.1.cls m_sh_isMissing.1 m_sh_isMissing.1 ∈ lw_g := lw_g_of (lw_t3 (List.mem_of_getElem? (i := 163) (by decide +kernel))) rfl
def m_sh_hasItem : gp_M := (⟨"GasTurn$Sheets", "hasItem", "(II)Z"⟩, prog_11_method_4_code, 3, some (FieldType.boolean), { frames := 1, cells := 0, slots := 0, locals := 22 })
theorem o_sh_hasItem : gp_mo m_sh_hasItem 2 := ⟨by decide +kernel, by decide +kernel, by decide +kernel, lw_g_of (lw_t3 (List.mem_of_getElem? (i := 168) (rfl))) rfl, lw_g_of (lw_t1 (List.mem_of_getElem? (i := 7) (by decide +kernel))) rfl⟩
theorem i_sh_hasItem : Cond.instanceMethod m_sh_hasItem.1 ∈ lw_g := lw_g_of (lw_t3 (List.mem_of_getElem? (i := 166) (by decide +kernel))) rfl
theorem v_sh_hasItem : Cond.selects m_sh_hasItem.1.cls m_sh_hasItem.1 m_sh_hasItem.1 ∈ lw_g := lw_g_of (lw_t3 (List.mem_of_getElem? (i := 167) (by decide +kernel))) rfl
def m_ga_known : gp_M := (⟨"GasTurn", "known", "(II)I"⟩, prog_1_method_19_code, 4, some (FieldType.int), { frames := 2, cells := 0, slots := 0, locals := 44 })
theorem o_ga_known : gp_mo m_ga_known 2 := ⟨by decide +kernel, by decide +kernel, by decide +kernel, lw_g_of (lw_t3 (List.mem_of_getElem? (i := 172) (rfl))) rfl, lw_g_of (lw_t1 (List.mem_of_getElem? (i := 1) (by decide +kernel))) rfl⟩
theorem i_ga_known : Cond.instanceMethod m_ga_known.1 ∈ lw_g := lw_g_of (lw_t3 (List.mem_of_getElem? (i := 170) (by decide +kernel))) rfl
theorem v_ga_known : Cond.selects m_ga_known.1.cls m_ga_known.1 m_ga_known.1 ∈ lw_g := lw_g_of (lw_t3 (List.mem_of_getElem? (i := 171) (by decide +kernel))) rfl
def m_ga_knownSet : gp_M := (⟨"GasTurn", "knownSet", "(LGasTurn$Home;I)I"⟩, prog_1_method_67_code, 5, some (FieldType.int), { frames := 1, cells := 0, slots := 0, locals := 20 })
theorem o_ga_knownSet : gp_mo m_ga_knownSet 2 := ⟨by decide +kernel, by decide +kernel, by decide +kernel, lw_g_of (lw_t3 (List.mem_of_getElem? (i := 176) (rfl))) rfl, lw_g_of (lw_t1 (List.mem_of_getElem? (i := 1) (by decide +kernel))) rfl⟩
theorem i_ga_knownSet : Cond.instanceMethod m_ga_knownSet.1 ∈ lw_g := lw_g_of (lw_t3 (List.mem_of_getElem? (i := 175) (by decide +kernel))) rfl
theorem v_ga_knownSet : Cond.selects m_ga_knownSet.1.cls m_ga_knownSet.1 m_ga_knownSet.1 ∈ lw_g := lw_g_of (List.mem_append_left _ (List.mem_map.mpr ⟨(m_ga_knownSet.1, 20), by decide +kernel, rfl⟩)) rfl
def m_ga_need : gp_M := (⟨"GasTurn", "need", "(IIII)I"⟩, prog_1_method_20_code, 5, some (FieldType.int), { frames := 3, cells := 0, slots := 0, locals := 74 })
theorem o_ga_need : gp_mo m_ga_need 4 := ⟨by decide +kernel, by decide +kernel, by decide +kernel, lw_g_of (lw_t3 (List.mem_of_getElem? (i := 180) (rfl))) rfl, lw_g_of (lw_t1 (List.mem_of_getElem? (i := 1) (by decide +kernel))) rfl⟩
theorem i_ga_need : Cond.instanceMethod m_ga_need.1 ∈ lw_g := lw_g_of (lw_t3 (List.mem_of_getElem? (i := 178) (by decide +kernel))) rfl
theorem v_ga_need : Cond.selects m_ga_need.1.cls m_ga_need.1 m_ga_need.1 ∈ lw_g := lw_g_of (lw_t3 (List.mem_of_getElem? (i := 179) (by decide +kernel))) rfl
def m_se_has : gp_M := (⟨"GasTurn$Sectors", "has", "(I)Z"⟩, prog_10_method_2_code, 2, some (FieldType.boolean), { frames := 1, cells := 0, slots := 0, locals := 22 })
theorem o_se_has : gp_mo m_se_has 1 := ⟨by decide +kernel, by decide +kernel, by decide +kernel, lw_g_of (lw_t3 (List.mem_of_getElem? (i := 184) (rfl))) rfl, lw_g_of (lw_t1 (List.mem_of_getElem? (i := 4) (by decide +kernel))) rfl⟩
theorem i_se_has : Cond.instanceMethod m_se_has.1 ∈ lw_g := lw_g_of (lw_t3 (List.mem_of_getElem? (i := 182) (by decide +kernel))) rfl
theorem v_se_has : Cond.selects m_se_has.1.cls m_se_has.1 m_se_has.1 ∈ lw_g := lw_g_of (lw_t3 (List.mem_of_getElem? (i := 183) (by decide +kernel))) rfl
def m_ga_needOf : gp_M := (⟨"GasTurn", "needOf", "(IIIZ)I"⟩, prog_1_method_68_code, 7, some (FieldType.int), { frames := 2, cells := 0, slots := 0, locals := 48 })
theorem o_ga_needOf : gp_mo m_ga_needOf 4 := ⟨by decide +kernel, by decide +kernel, by decide +kernel, lw_g_of (lw_t3 (List.mem_of_getElem? (i := 189) (rfl))) rfl, lw_g_of (lw_t1 (List.mem_of_getElem? (i := 1) (by decide +kernel))) rfl⟩
theorem i_ga_needOf : Cond.instanceMethod m_ga_needOf.1 ∈ lw_g := lw_g_of (lw_t3 (List.mem_of_getElem? (i := 188) (by decide +kernel))) rfl
theorem v_ga_needOf : Cond.selects m_ga_needOf.1.cls m_ga_needOf.1 m_ga_needOf.1 ∈ lw_g := lw_g_of (List.mem_append_left _ (List.mem_map.mpr ⟨(m_ga_needOf.1, 20), by decide +kernel, rfl⟩)) rfl
def m_ga_takenBy : gp_M := (⟨"GasTurn", "takenBy", "(IIZ)I"⟩, prog_1_method_69_code, 8, some (FieldType.int), { frames := 1, cells := 0, slots := 0, locals := 21 })
theorem o_ga_takenBy : gp_mo m_ga_takenBy 3 := ⟨by decide +kernel, by decide +kernel, by decide +kernel, lw_g_of (lw_t3 (List.mem_of_getElem? (i := 193) (rfl))) rfl, lw_g_of (lw_t1 (List.mem_of_getElem? (i := 1) (by decide +kernel))) rfl⟩
theorem i_ga_takenBy : Cond.instanceMethod m_ga_takenBy.1 ∈ lw_g := lw_g_of (lw_t3 (List.mem_of_getElem? (i := 192) (by decide +kernel))) rfl
theorem v_ga_takenBy : Cond.selects m_ga_takenBy.1.cls m_ga_takenBy.1 m_ga_takenBy.1 ∈ lw_g := lw_g_of (List.mem_append_left _ (List.mem_map.mpr ⟨(m_ga_takenBy.1, 20), by decide +kernel, rfl⟩)) rfl
def m_ri_takes : gp_M := (⟨"GasTurn$Ring", "takes", "(I)I"⟩, prog_9_method_3_code, 2, some (FieldType.int), { frames := 0, cells := 0, slots := 0, locals := 0 })
theorem o_ri_takes : gp_mo m_ri_takes 1 := ⟨by decide +kernel, by decide +kernel, by decide +kernel, lw_g_of (lw_t3 (List.mem_of_getElem? (i := 201) (rfl))) rfl, lw_g_of (lw_t1 (List.mem_of_getElem? (i := 11) (by decide +kernel))) rfl⟩
theorem i_ri_takes : Cond.instanceMethod m_ri_takes.1 ∈ lw_g := lw_g_of (lw_t3 (List.mem_of_getElem? (i := 195) (by decide +kernel))) rfl
theorem v_ri_takes : Cond.selects m_ri_takes.1.cls m_ri_takes.1 m_ri_takes.1 ∈ lw_g := lw_g_of (lw_t3 (List.mem_of_getElem? (i := 196) (by decide +kernel))) rfl
def m_ma_min : gp_M := (⟨"java/lang/Math", "min", "(II)I"⟩, prog_16_method_69_code, 2, some (FieldType.int), { frames := 0, cells := 0, slots := 0, locals := 0 })
theorem i_ma_min : Cond.static m_ma_min.1 ∈ lw_g := lw_g_of (lw_t3 (List.mem_of_getElem? (i := 203) (by decide +kernel))) rfl
def m_ma_max : gp_M := (⟨"java/lang/Math", "max", "(II)I"⟩, prog_16_method_65_code, 2, some (FieldType.int), { frames := 0, cells := 0, slots := 0, locals := 0 })
theorem i_ma_max : Cond.static m_ma_max.1 ∈ lw_g := lw_g_of (lw_t3 (List.mem_of_getElem? (i := 206) (by decide +kernel))) rfl
def m_ga_homeOf : gp_M := (⟨"GasTurn", "homeOf", "(II)I"⟩, prog_1_method_21_code, 4, some (FieldType.int), { frames := 2, cells := 0, slots := 0, locals := 43 })
theorem o_ga_homeOf : gp_mo m_ga_homeOf 2 := ⟨by decide +kernel, by decide +kernel, by decide +kernel, lw_g_of (lw_t3 (List.mem_of_getElem? (i := 211) (rfl))) rfl, lw_g_of (lw_t1 (List.mem_of_getElem? (i := 1) (by decide +kernel))) rfl⟩
theorem i_ga_homeOf : Cond.instanceMethod m_ga_homeOf.1 ∈ lw_g := lw_g_of (lw_t3 (List.mem_of_getElem? (i := 209) (by decide +kernel))) rfl
theorem v_ga_homeOf : Cond.selects m_ga_homeOf.1.cls m_ga_homeOf.1 m_ga_homeOf.1 ∈ lw_g := lw_g_of (lw_t3 (List.mem_of_getElem? (i := 210) (by decide +kernel))) rfl
def m_ga_stock : gp_M := (⟨"GasTurn", "stock", "(II)I"⟩, prog_1_method_22_code, 3, some (FieldType.int), { frames := 2, cells := 0, slots := 0, locals := 42 })
theorem o_ga_stock : gp_mo m_ga_stock 2 := ⟨by decide +kernel, by decide +kernel, by decide +kernel, lw_g_of (lw_t3 (List.mem_of_getElem? (i := 215) (rfl))) rfl, lw_g_of (lw_t1 (List.mem_of_getElem? (i := 1) (by decide +kernel))) rfl⟩
theorem i_ga_stock : Cond.instanceMethod m_ga_stock.1 ∈ lw_g := lw_g_of (lw_t3 (List.mem_of_getElem? (i := 213) (by decide +kernel))) rfl
theorem v_ga_stock : Cond.selects m_ga_stock.1.cls m_ga_stock.1 m_ga_stock.1 ∈ lw_g := lw_g_of (lw_t3 (List.mem_of_getElem? (i := 214) (by decide +kernel))) rfl
def m_ga_order : gp_M := (⟨"GasTurn", "order", "(III)I"⟩, prog_1_method_23_code, 4, some (FieldType.int), { frames := 2, cells := 0, slots := 0, locals := 42 })
theorem o_ga_order : gp_mo m_ga_order 3 := ⟨by decide +kernel, by decide +kernel, by decide +kernel, lw_g_of (lw_t3 (List.mem_of_getElem? (i := 219) (rfl))) rfl, lw_g_of (lw_t1 (List.mem_of_getElem? (i := 1) (by decide +kernel))) rfl⟩
theorem i_ga_order : Cond.instanceMethod m_ga_order.1 ∈ lw_g := lw_g_of (lw_t3 (List.mem_of_getElem? (i := 217) (by decide +kernel))) rfl
theorem v_ga_order : Cond.selects m_ga_order.1.cls m_ga_order.1 m_ga_order.1 ∈ lw_g := lw_g_of (lw_t3 (List.mem_of_getElem? (i := 218) (by decide +kernel))) rfl
def m_ga_sector : gp_M := (⟨"GasTurn", "sector", "(I)I"⟩, prog_1_method_24_code, 2, some (FieldType.int), { frames := 2, cells := 0, slots := 0, locals := 44 })
theorem o_ga_sector : gp_mo m_ga_sector 1 := ⟨by decide +kernel, by decide +kernel, by decide +kernel, lw_g_of (lw_t3 (List.mem_of_getElem? (i := 223) (rfl))) rfl, lw_g_of (lw_t1 (List.mem_of_getElem? (i := 1) (by decide +kernel))) rfl⟩
theorem i_ga_sector : Cond.instanceMethod m_ga_sector.1 ∈ lw_g := lw_g_of (lw_t3 (List.mem_of_getElem? (i := 221) (by decide +kernel))) rfl
theorem v_ga_sector : Cond.selects m_ga_sector.1.cls m_ga_sector.1 m_ga_sector.1 ∈ lw_g := lw_g_of (lw_t3 (List.mem_of_getElem? (i := 222) (by decide +kernel))) rfl
def m_se_all : gp_M := (⟨"GasTurn$Sectors", "all", "()I"⟩, prog_10_method_3_code, 1, some (FieldType.int), { frames := 0, cells := 0, slots := 0, locals := 0 })
theorem o_se_all : gp_mo m_se_all 0 := ⟨by decide +kernel, by decide +kernel, by decide +kernel, lw_g_of (lw_t3 (List.mem_of_getElem? (i := 228) (rfl))) rfl, lw_g_of (lw_t1 (List.mem_of_getElem? (i := 4) (by decide +kernel))) rfl⟩
theorem i_se_all : Cond.instanceMethod m_se_all.1 ∈ lw_g := lw_g_of (lw_t3 (List.mem_of_getElem? (i := 226) (by decide +kernel))) rfl
theorem v_se_all : Cond.selects m_se_all.1.cls m_se_all.1 m_se_all.1 ∈ lw_g := lw_g_of (lw_t3 (List.mem_of_getElem? (i := 227) (by decide +kernel))) rfl
def m_se_knotsOf : gp_M := (⟨"GasTurn$Sectors", "knotsOf", "(I)I"⟩, prog_10_method_5_code, 4, some (FieldType.int), { frames := 1, cells := 0, slots := 0, locals := 21 })
theorem o_se_knotsOf : gp_mo m_se_knotsOf 1 := ⟨by decide +kernel, by decide +kernel, by decide +kernel, lw_g_of (lw_t3 (List.mem_of_getElem? (i := 232) (rfl))) rfl, lw_g_of (lw_t1 (List.mem_of_getElem? (i := 4) (by decide +kernel))) rfl⟩
theorem i_se_knotsOf : Cond.instanceMethod m_se_knotsOf.1 ∈ lw_g := lw_g_of (lw_t3 (List.mem_of_getElem? (i := 230) (by decide +kernel))) rfl
theorem v_se_knotsOf : Cond.selects m_se_knotsOf.1.cls m_se_knotsOf.1 m_se_knotsOf.1 ∈ lw_g := lw_g_of (lw_t3 (List.mem_of_getElem? (i := 231) (by decide +kernel))) rfl
def m_ga_why : gp_M := (⟨"GasTurn", "why", "(I)I"⟩, prog_1_method_25_code, 2, some (FieldType.int), { frames := 6, cells := 0, slots := 0, locals := 136 })
theorem o_ga_why : gp_mo m_ga_why 1 := ⟨by decide +kernel, by decide +kernel, by decide +kernel, lw_g_of (lw_t3 (List.mem_of_getElem? (i := 237) (rfl))) rfl, lw_g_of (lw_t1 (List.mem_of_getElem? (i := 1) (by decide +kernel))) rfl⟩
theorem i_ga_why : Cond.instanceMethod m_ga_why.1 ∈ lw_g := lw_g_of (lw_t3 (List.mem_of_getElem? (i := 235) (by decide +kernel))) rfl
theorem v_ga_why : Cond.selects m_ga_why.1.cls m_ga_why.1 m_ga_why.1 ∈ lw_g := lw_g_of (lw_t3 (List.mem_of_getElem? (i := 236) (by decide +kernel))) rfl
def m_ga_whatHinders : gp_M := (⟨"GasTurn", "whatHinders", "(I)I"⟩, prog_1_method_73_code, 3, some (FieldType.int), { frames := 5, cells := 0, slots := 0, locals := 114 })
theorem o_ga_whatHinders : gp_mo m_ga_whatHinders 1 := ⟨by decide +kernel, by decide +kernel, by decide +kernel, lw_g_of (lw_t4 (List.mem_of_getElem? (i := 1) (rfl))) rfl, lw_g_of (lw_t1 (List.mem_of_getElem? (i := 1) (by decide +kernel))) rfl⟩
theorem i_ga_whatHinders : Cond.instanceMethod m_ga_whatHinders.1 ∈ lw_g := lw_g_of (lw_t4 (List.mem_of_getElem? (i := 0) (by decide +kernel))) rfl
theorem v_ga_whatHinders : Cond.selects m_ga_whatHinders.1.cls m_ga_whatHinders.1 m_ga_whatHinders.1 ∈ lw_g := lw_g_of (List.mem_append_left _ (List.mem_map.mpr ⟨(m_ga_whatHinders.1, 20), by decide +kernel, rfl⟩)) rfl
def m_ga_countLack : gp_M := (⟨"GasTurn", "countLack", "()V"⟩, prog_1_method_72_code, 3, none, { frames := 1, cells := 0, slots := 0, locals := 23 })
theorem o_ga_countLack : gp_mo m_ga_countLack 0 := ⟨by decide +kernel, by decide +kernel, by decide +kernel, lw_g_of (lw_t4 (List.mem_of_getElem? (i := 5) (rfl))) rfl, lw_g_of (lw_t1 (List.mem_of_getElem? (i := 1) (by decide +kernel))) rfl⟩
theorem i_ga_countLack : Cond.instanceMethod m_ga_countLack.1 ∈ lw_g := lw_g_of (lw_t4 (List.mem_of_getElem? (i := 4) (by decide +kernel))) rfl
theorem v_ga_countLack : Cond.selects m_ga_countLack.1.cls m_ga_countLack.1 m_ga_countLack.1 ∈ lw_g := lw_g_of (List.mem_append_left _ (List.mem_map.mpr ⟨(m_ga_countLack.1, 20), by decide +kernel, rfl⟩)) rfl
def m_se_hindrance : gp_M := (⟨"GasTurn$Sectors", "hindrance", "(I)I"⟩, prog_10_method_10_code, 3, some (FieldType.int), { frames := 4, cells := 0, slots := 0, locals := 92 })
theorem o_se_hindrance : gp_mo m_se_hindrance 1 := ⟨by decide +kernel, by decide +kernel, by decide +kernel, lw_g_of (lw_t4 (List.mem_of_getElem? (i := 10) (rfl))) rfl, lw_g_of (lw_t1 (List.mem_of_getElem? (i := 4) (by decide +kernel))) rfl⟩
theorem i_se_hindrance : Cond.instanceMethod m_se_hindrance.1 ∈ lw_g := lw_g_of (lw_t4 (List.mem_of_getElem? (i := 8) (by decide +kernel))) rfl
theorem v_se_hindrance : Cond.selects m_se_hindrance.1.cls m_se_hindrance.1 m_se_hindrance.1 ∈ lw_g := lw_g_of (lw_t4 (List.mem_of_getElem? (i := 9) (by decide +kernel))) rfl
def m_se_isChanged : gp_M := (⟨"GasTurn$Sectors", "isChanged", "(I)Z"⟩, prog_10_method_4_code, 2, some (FieldType.boolean), { frames := 1, cells := 0, slots := 0, locals := 21 })
theorem o_se_isChanged : gp_mo m_se_isChanged 1 := ⟨by decide +kernel, by decide +kernel, by decide +kernel, lw_g_of (lw_t4 (List.mem_of_getElem? (i := 14) (rfl))) rfl, lw_g_of (lw_t1 (List.mem_of_getElem? (i := 4) (by decide +kernel))) rfl⟩
theorem i_se_isChanged : Cond.instanceMethod m_se_isChanged.1 ∈ lw_g := lw_g_of (lw_t4 (List.mem_of_getElem? (i := 12) (by decide +kernel))) rfl
theorem v_se_isChanged : Cond.selects m_se_isChanged.1.cls m_se_isChanged.1 m_se_isChanged.1 ∈ lw_g := lw_g_of (lw_t4 (List.mem_of_getElem? (i := 13) (by decide +kernel))) rfl
def m_se_changedKnots : gp_M := (⟨"GasTurn$Sectors", "changedKnots", "()I"⟩, prog_10_method_6_code, 1, some (FieldType.int), { frames := 2, cells := 0, slots := 0, locals := 44 })
theorem o_se_changedKnots : gp_mo m_se_changedKnots 0 := ⟨by decide +kernel, by decide +kernel, by decide +kernel, lw_g_of (lw_t4 (List.mem_of_getElem? (i := 18) (rfl))) rfl, lw_g_of (lw_t1 (List.mem_of_getElem? (i := 4) (by decide +kernel))) rfl⟩
theorem i_se_changedKnots : Cond.instanceMethod m_se_changedKnots.1 ∈ lw_g := lw_g_of (lw_t4 (List.mem_of_getElem? (i := 16) (by decide +kernel))) rfl
theorem v_se_changedKnots : Cond.selects m_se_changedKnots.1.cls m_se_changedKnots.1 m_se_changedKnots.1 ∈ lw_g := lw_g_of (lw_t4 (List.mem_of_getElem? (i := 17) (by decide +kernel))) rfl
def m_ne_canBePartedFromRest : gp_M := (⟨"GasTurn$Net", "canBePartedFromRest", "(I)Z"⟩, prog_7_method_20_code, 3, some (FieldType.boolean), { frames := 2, cells := 0, slots := 0, locals := 43 })
theorem o_ne_canBePartedFromRest : gp_mo m_ne_canBePartedFromRest 1 := ⟨by decide +kernel, by decide +kernel, by decide +kernel, lw_g_of (lw_t4 (List.mem_of_getElem? (i := 23) (rfl))) rfl, lw_g_of (lw_t1 (List.mem_of_getElem? (i := 2) (by decide +kernel))) rfl⟩
theorem i_ne_canBePartedFromRest : Cond.instanceMethod m_ne_canBePartedFromRest.1 ∈ lw_g := lw_g_of (lw_t4 (List.mem_of_getElem? (i := 21) (by decide +kernel))) rfl
theorem v_ne_canBePartedFromRest : Cond.selects m_ne_canBePartedFromRest.1.cls m_ne_canBePartedFromRest.1 m_ne_canBePartedFromRest.1 ∈ lw_g := lw_g_of (lw_t4 (List.mem_of_getElem? (i := 22) (by decide +kernel))) rfl
def m_ne_crosses : gp_M := (⟨"GasTurn$Net", "crosses", "(II)Z"⟩, prog_7_method_19_code, 3, some (FieldType.boolean), { frames := 1, cells := 0, slots := 0, locals := 21 })
theorem o_ne_crosses : gp_mo m_ne_crosses 2 := ⟨by decide +kernel, by decide +kernel, by decide +kernel, lw_g_of (lw_t4 (List.mem_of_getElem? (i := 27) (rfl))) rfl, lw_g_of (lw_t1 (List.mem_of_getElem? (i := 2) (by decide +kernel))) rfl⟩
theorem i_ne_crosses : Cond.instanceMethod m_ne_crosses.1 ∈ lw_g := lw_g_of (lw_t4 (List.mem_of_getElem? (i := 26) (by decide +kernel))) rfl
theorem v_ne_crosses : Cond.selects m_ne_crosses.1.cls m_ne_crosses.1 m_ne_crosses.1 ∈ lw_g := lw_g_of (List.mem_append_left _ (List.mem_map.mpr ⟨(m_ne_crosses.1, 14), by decide +kernel, rfl⟩)) rfl
def m_ne_fedWithin : gp_M := (⟨"GasTurn$Net", "fedWithin", "(I)I"⟩, prog_7_method_13_code, 2, some (FieldType.int), { frames := 3, cells := 0, slots := 0, locals := 67 })
theorem o_ne_fedWithin : gp_mo m_ne_fedWithin 1 := ⟨by decide +kernel, by decide +kernel, by decide +kernel, lw_g_of (lw_t4 (List.mem_of_getElem? (i := 31) (rfl))) rfl, lw_g_of (lw_t1 (List.mem_of_getElem? (i := 2) (by decide +kernel))) rfl⟩
theorem i_ne_fedWithin : Cond.instanceMethod m_ne_fedWithin.1 ∈ lw_g := lw_g_of (lw_t4 (List.mem_of_getElem? (i := 29) (by decide +kernel))) rfl
theorem v_ne_fedWithin : Cond.selects m_ne_fedWithin.1.cls m_ne_fedWithin.1 m_ne_fedWithin.1 ∈ lw_g := lw_g_of (lw_t4 (List.mem_of_getElem? (i := 30) (by decide +kernel))) rfl
def m_se_restIsSupplied : gp_M := (⟨"GasTurn$Sectors", "restIsSupplied", "(I)Z"⟩, prog_10_method_11_code, 6, some (FieldType.boolean), { frames := 3, cells := 0, slots := 0, locals := 67 })
theorem o_se_restIsSupplied : gp_mo m_se_restIsSupplied 1 := ⟨by decide +kernel, by decide +kernel, by decide +kernel, lw_g_of (lw_t4 (List.mem_of_getElem? (i := 35) (rfl))) rfl, lw_g_of (lw_t1 (List.mem_of_getElem? (i := 4) (by decide +kernel))) rfl⟩
theorem i_se_restIsSupplied : Cond.instanceMethod m_se_restIsSupplied.1 ∈ lw_g := lw_g_of (lw_t4 (List.mem_of_getElem? (i := 34) (by decide +kernel))) rfl
theorem v_se_restIsSupplied : Cond.selects m_se_restIsSupplied.1.cls m_se_restIsSupplied.1 m_se_restIsSupplied.1 ∈ lw_g := lw_g_of (List.mem_append_left _ (List.mem_map.mpr ⟨(m_se_restIsSupplied.1, 12), by decide +kernel, rfl⟩)) rfl
def m_se_lackIn : gp_M := (⟨"GasTurn$Sectors", "lackIn", "(I)I"⟩, prog_10_method_12_code, 4, some (FieldType.int), { frames := 1, cells := 0, slots := 0, locals := 21 })
theorem o_se_lackIn : gp_mo m_se_lackIn 1 := ⟨by decide +kernel, by decide +kernel, by decide +kernel, lw_g_of (lw_t4 (List.mem_of_getElem? (i := 42) (rfl))) rfl, lw_g_of (lw_t1 (List.mem_of_getElem? (i := 4) (by decide +kernel))) rfl⟩
theorem i_se_lackIn : Cond.instanceMethod m_se_lackIn.1 ∈ lw_g := lw_g_of (lw_t4 (List.mem_of_getElem? (i := 41) (by decide +kernel))) rfl
theorem v_se_lackIn : Cond.selects m_se_lackIn.1.cls m_se_lackIn.1 m_se_lackIn.1 ∈ lw_g := lw_g_of (List.mem_append_left _ (List.mem_map.mpr ⟨(m_se_lackIn.1, 12), by decide +kernel, rfl⟩)) rfl
def m_la_bars : gp_M := (⟨"GasTurn$Laws", "bars", "(II)Z"⟩, prog_6_method_9_code, 4, some (FieldType.boolean), { frames := 1, cells := 0, slots := 0, locals := 22 })
theorem o_la_bars : gp_mo m_la_bars 2 := ⟨by decide +kernel, by decide +kernel, by decide +kernel, lw_g_of (lw_t4 (List.mem_of_getElem? (i := 46) (rfl))) rfl, lw_g_of (lw_t1 (List.mem_of_getElem? (i := 6) (by decide +kernel))) rfl⟩
theorem i_la_bars : Cond.instanceMethod m_la_bars.1 ∈ lw_g := lw_g_of (lw_t4 (List.mem_of_getElem? (i := 44) (by decide +kernel))) rfl
theorem v_la_bars : Cond.selects m_la_bars.1.cls m_la_bars.1 m_la_bars.1 ∈ lw_g := lw_g_of (lw_t4 (List.mem_of_getElem? (i := 45) (by decide +kernel))) rfl
def m_ga_best : gp_M := (⟨"GasTurn", "best", "()I"⟩, prog_1_method_26_code, 1, some (FieldType.int), { frames := 6, cells := 0, slots := 0, locals := 136 })
theorem o_ga_best : gp_mo m_ga_best 0 := ⟨by decide +kernel, by decide +kernel, by decide +kernel, lw_g_of (lw_t4 (List.mem_of_getElem? (i := 51) (rfl))) rfl, lw_g_of (lw_t1 (List.mem_of_getElem? (i := 1) (by decide +kernel))) rfl⟩
theorem i_ga_best : Cond.instanceMethod m_ga_best.1 ∈ lw_g := lw_g_of (lw_t4 (List.mem_of_getElem? (i := 49) (by decide +kernel))) rfl
theorem v_ga_best : Cond.selects m_ga_best.1.cls m_ga_best.1 m_ga_best.1 ∈ lw_g := lw_g_of (lw_t4 (List.mem_of_getElem? (i := 50) (by decide +kernel))) rfl
def m_se_findBestRow : gp_M := (⟨"GasTurn$Sectors", "findBestRow", "()I"⟩, prog_10_method_13_code, 2, some (FieldType.int), { frames := 5, cells := 0, slots := 0, locals := 115 })
theorem o_se_findBestRow : gp_mo m_se_findBestRow 0 := ⟨by decide +kernel, by decide +kernel, by decide +kernel, lw_g_of (lw_t4 (List.mem_of_getElem? (i := 55) (rfl))) rfl, lw_g_of (lw_t1 (List.mem_of_getElem? (i := 4) (by decide +kernel))) rfl⟩
theorem i_se_findBestRow : Cond.instanceMethod m_se_findBestRow.1 ∈ lw_g := lw_g_of (lw_t4 (List.mem_of_getElem? (i := 53) (by decide +kernel))) rfl
theorem v_se_findBestRow : Cond.selects m_se_findBestRow.1.cls m_se_findBestRow.1 m_se_findBestRow.1 ∈ lw_g := lw_g_of (lw_t4 (List.mem_of_getElem? (i := 54) (by decide +kernel))) rfl
def m_se_weigh : gp_M := (⟨"GasTurn$Sectors", "weigh", "(I)V"⟩, prog_10_method_14_code, 4, none, { frames := 4, cells := 0, slots := 0, locals := 92 })
theorem o_se_weigh : gp_mo m_se_weigh 1 := ⟨by decide +kernel, by decide +kernel, by decide +kernel, lw_g_of (lw_t4 (List.mem_of_getElem? (i := 60) (rfl))) rfl, lw_g_of (lw_t1 (List.mem_of_getElem? (i := 4) (by decide +kernel))) rfl⟩
theorem i_se_weigh : Cond.instanceMethod m_se_weigh.1 ∈ lw_g := lw_g_of (lw_t4 (List.mem_of_getElem? (i := 59) (by decide +kernel))) rfl
theorem v_se_weigh : Cond.selects m_se_weigh.1.cls m_se_weigh.1 m_se_weigh.1 ∈ lw_g := lw_g_of (List.mem_append_left _ (List.mem_map.mpr ⟨(m_se_weigh.1, 12), by decide +kernel, rfl⟩)) rfl
def m_se_priceAfter : gp_M := (⟨"GasTurn$Sectors", "priceAfter", "(I)I"⟩, prog_10_method_15_code, 5, some (FieldType.int), { frames := 1, cells := 0, slots := 0, locals := 20 })
theorem o_se_priceAfter : gp_mo m_se_priceAfter 1 := ⟨by decide +kernel, by decide +kernel, by decide +kernel, lw_g_of (lw_t4 (List.mem_of_getElem? (i := 64) (rfl))) rfl, lw_g_of (lw_t1 (List.mem_of_getElem? (i := 4) (by decide +kernel))) rfl⟩
theorem i_se_priceAfter : Cond.instanceMethod m_se_priceAfter.1 ∈ lw_g := lw_g_of (lw_t4 (List.mem_of_getElem? (i := 63) (by decide +kernel))) rfl
theorem v_se_priceAfter : Cond.selects m_se_priceAfter.1.cls m_se_priceAfter.1 m_se_priceAfter.1 ∈ lw_g := lw_g_of (List.mem_append_left _ (List.mem_map.mpr ⟨(m_se_priceAfter.1, 12), by decide +kernel, rfl⟩)) rfl
def m_ne_pipesToRest : gp_M := (⟨"GasTurn$Net", "pipesToRest", "(I)I"⟩, prog_7_method_21_code, 4, some (FieldType.int), { frames := 2, cells := 0, slots := 0, locals := 43 })
theorem o_ne_pipesToRest : gp_mo m_ne_pipesToRest 1 := ⟨by decide +kernel, by decide +kernel, by decide +kernel, lw_g_of (lw_t4 (List.mem_of_getElem? (i := 69) (rfl))) rfl, lw_g_of (lw_t1 (List.mem_of_getElem? (i := 2) (by decide +kernel))) rfl⟩
theorem i_ne_pipesToRest : Cond.instanceMethod m_ne_pipesToRest.1 ∈ lw_g := lw_g_of (lw_t4 (List.mem_of_getElem? (i := 67) (by decide +kernel))) rfl
theorem v_ne_pipesToRest : Cond.selects m_ne_pipesToRest.1.cls m_ne_pipesToRest.1 m_ne_pipesToRest.1 ∈ lw_g := lw_g_of (lw_t4 (List.mem_of_getElem? (i := 68) (by decide +kernel))) rfl
def m_se_tellRow : gp_M := (⟨"GasTurn$Sectors", "tellRow", "()V"⟩, prog_10_method_16_code, 3, none, { frames := 1, cells := 0, slots := 0, locals := 20 })
theorem o_se_tellRow : gp_mo m_se_tellRow 0 := ⟨by decide +kernel, by decide +kernel, by decide +kernel, lw_g_of (lw_t4 (List.mem_of_getElem? (i := 73) (rfl))) rfl, lw_g_of (lw_t1 (List.mem_of_getElem? (i := 4) (by decide +kernel))) rfl⟩
theorem i_se_tellRow : Cond.instanceMethod m_se_tellRow.1 ∈ lw_g := lw_g_of (lw_t4 (List.mem_of_getElem? (i := 72) (by decide +kernel))) rfl
theorem v_se_tellRow : Cond.selects m_se_tellRow.1.cls m_se_tellRow.1 m_se_tellRow.1 ∈ lw_g := lw_g_of (List.mem_append_left _ (List.mem_map.mpr ⟨(m_se_tellRow.1, 12), by decide +kernel, rfl⟩)) rfl
def m_ga_bestAt : gp_M := (⟨"GasTurn", "bestAt", "(I)I"⟩, prog_1_method_27_code, 2, some (FieldType.int), { frames := 1, cells := 0, slots := 0, locals := 22 })
theorem o_ga_bestAt : gp_mo m_ga_bestAt 1 := ⟨by decide +kernel, by decide +kernel, by decide +kernel, lw_g_of (lw_t4 (List.mem_of_getElem? (i := 77) (rfl))) rfl, lw_g_of (lw_t1 (List.mem_of_getElem? (i := 1) (by decide +kernel))) rfl⟩
theorem i_ga_bestAt : Cond.instanceMethod m_ga_bestAt.1 ∈ lw_g := lw_g_of (lw_t4 (List.mem_of_getElem? (i := 75) (by decide +kernel))) rfl
theorem v_ga_bestAt : Cond.selects m_ga_bestAt.1.cls m_ga_bestAt.1 m_ga_bestAt.1 ∈ lw_g := lw_g_of (lw_t4 (List.mem_of_getElem? (i := 76) (by decide +kernel))) rfl
def m_ga_plan : gp_M := (⟨"GasTurn", "plan", "(I)I"⟩, prog_1_method_28_code, 2, some (FieldType.int), { frames := 2, cells := 0, slots := 0, locals := 43 })
theorem o_ga_plan : gp_mo m_ga_plan 1 := ⟨by decide +kernel, by decide +kernel, by decide +kernel, lw_g_of (lw_t4 (List.mem_of_getElem? (i := 81) (rfl))) rfl, lw_g_of (lw_t1 (List.mem_of_getElem? (i := 1) (by decide +kernel))) rfl⟩
theorem i_ga_plan : Cond.instanceMethod m_ga_plan.1 ∈ lw_g := lw_g_of (lw_t4 (List.mem_of_getElem? (i := 79) (by decide +kernel))) rfl
theorem v_ga_plan : Cond.selects m_ga_plan.1.cls m_ga_plan.1 m_ga_plan.1 ∈ lw_g := lw_g_of (lw_t4 (List.mem_of_getElem? (i := 80) (by decide +kernel))) rfl
def m_se_isPlanned : gp_M := (⟨"GasTurn$Sectors", "isPlanned", "(I)Z"⟩, prog_10_method_8_code, 3, some (FieldType.boolean), { frames := 0, cells := 0, slots := 0, locals := 0 })
theorem o_se_isPlanned : gp_mo m_se_isPlanned 1 := ⟨by decide +kernel, by decide +kernel, by decide +kernel, lw_g_of (lw_t4 (List.mem_of_getElem? (i := 86) (rfl))) rfl, lw_g_of (lw_t1 (List.mem_of_getElem? (i := 4) (by decide +kernel))) rfl⟩
theorem i_se_isPlanned : Cond.instanceMethod m_se_isPlanned.1 ∈ lw_g := lw_g_of (lw_t4 (List.mem_of_getElem? (i := 84) (by decide +kernel))) rfl
theorem v_se_isPlanned : Cond.selects m_se_isPlanned.1.cls m_se_isPlanned.1 m_se_isPlanned.1 ∈ lw_g := lw_g_of (lw_t4 (List.mem_of_getElem? (i := 85) (by decide +kernel))) rfl
def m_se_addToPlan : gp_M := (⟨"GasTurn$Sectors", "addToPlan", "(I)I"⟩, prog_10_method_9_code, 2, some (FieldType.int), { frames := 0, cells := 0, slots := 0, locals := 0 })
theorem o_se_addToPlan : gp_mo m_se_addToPlan 1 := ⟨by decide +kernel, by decide +kernel, by decide +kernel, lw_g_of (lw_t4 (List.mem_of_getElem? (i := 90) (rfl))) rfl, lw_g_of (lw_t1 (List.mem_of_getElem? (i := 4) (by decide +kernel))) rfl⟩
theorem i_se_addToPlan : Cond.instanceMethod m_se_addToPlan.1 ∈ lw_g := lw_g_of (lw_t4 (List.mem_of_getElem? (i := 88) (by decide +kernel))) rfl
theorem v_se_addToPlan : Cond.selects m_se_addToPlan.1.cls m_se_addToPlan.1 m_se_addToPlan.1 ∈ lw_g := lw_g_of (lw_t4 (List.mem_of_getElem? (i := 89) (by decide +kernel))) rfl
def m_ga_unplan : gp_M := (⟨"GasTurn", "unplan", "()I"⟩, prog_1_method_29_code, 2, some (FieldType.int), { frames := 0, cells := 0, slots := 0, locals := 0 })
theorem o_ga_unplan : gp_mo m_ga_unplan 0 := ⟨by decide +kernel, by decide +kernel, by decide +kernel, lw_g_of (lw_t4 (List.mem_of_getElem? (i := 94) (rfl))) rfl, lw_g_of (lw_t1 (List.mem_of_getElem? (i := 1) (by decide +kernel))) rfl⟩
theorem i_ga_unplan : Cond.instanceMethod m_ga_unplan.1 ∈ lw_g := lw_g_of (lw_t4 (List.mem_of_getElem? (i := 92) (by decide +kernel))) rfl
theorem v_ga_unplan : Cond.selects m_ga_unplan.1.cls m_ga_unplan.1 m_ga_unplan.1 ∈ lw_g := lw_g_of (lw_t4 (List.mem_of_getElem? (i := 93) (by decide +kernel))) rfl
def m_ga_shortOf : gp_M := (⟨"GasTurn", "shortOf", "(II)I"⟩, prog_1_method_30_code, 5, some (FieldType.int), { frames := 3, cells := 0, slots := 0, locals := 74 })
theorem o_ga_shortOf : gp_mo m_ga_shortOf 2 := ⟨by decide +kernel, by decide +kernel, by decide +kernel, lw_g_of (lw_t4 (List.mem_of_getElem? (i := 98) (rfl))) rfl, lw_g_of (lw_t1 (List.mem_of_getElem? (i := 1) (by decide +kernel))) rfl⟩
theorem i_ga_shortOf : Cond.instanceMethod m_ga_shortOf.1 ∈ lw_g := lw_g_of (lw_t4 (List.mem_of_getElem? (i := 96) (by decide +kernel))) rfl
theorem v_ga_shortOf : Cond.selects m_ga_shortOf.1.cls m_ga_shortOf.1 m_ga_shortOf.1 ∈ lw_g := lw_g_of (lw_t4 (List.mem_of_getElem? (i := 97) (by decide +kernel))) rfl
def m_ga_orderedTill : gp_M := (⟨"GasTurn", "orderedTill", "(II)I"⟩, prog_1_method_70_code, 6, some (FieldType.int), { frames := 0, cells := 0, slots := 0, locals := 0 })
theorem o_ga_orderedTill : gp_mo m_ga_orderedTill 2 := ⟨by decide +kernel, by decide +kernel, by decide +kernel, lw_g_of (lw_t4 (List.mem_of_getElem? (i := 102) (rfl))) rfl, lw_g_of (lw_t1 (List.mem_of_getElem? (i := 1) (by decide +kernel))) rfl⟩
theorem i_ga_orderedTill : Cond.instanceMethod m_ga_orderedTill.1 ∈ lw_g := lw_g_of (lw_t4 (List.mem_of_getElem? (i := 101) (by decide +kernel))) rfl
theorem v_ga_orderedTill : Cond.selects m_ga_orderedTill.1.cls m_ga_orderedTill.1 m_ga_orderedTill.1 ∈ lw_g := lw_g_of (List.mem_append_left _ (List.mem_map.mpr ⟨(m_ga_orderedTill.1, 20), by decide +kernel, rfl⟩)) rfl
def m_ga_fitter : gp_M := (⟨"GasTurn", "fitter", "(III)I"⟩, prog_1_method_31_code, 4, some (FieldType.int), { frames := 2, cells := 0, slots := 0, locals := 43 })
theorem o_ga_fitter : gp_mo m_ga_fitter 3 := ⟨by decide +kernel, by decide +kernel, by decide +kernel, lw_g_of (lw_t4 (List.mem_of_getElem? (i := 106) (rfl))) rfl, lw_g_of (lw_t1 (List.mem_of_getElem? (i := 1) (by decide +kernel))) rfl⟩
theorem i_ga_fitter : Cond.instanceMethod m_ga_fitter.1 ∈ lw_g := lw_g_of (lw_t4 (List.mem_of_getElem? (i := 104) (by decide +kernel))) rfl
theorem v_ga_fitter : Cond.selects m_ga_fitter.1.cls m_ga_fitter.1 m_ga_fitter.1 ∈ lw_g := lw_g_of (lw_t4 (List.mem_of_getElem? (i := 105) (by decide +kernel))) rfl
def m_du_addFitter : gp_M := (⟨"GasTurn$Duty", "addFitter", "(III)I"⟩, prog_2_method_4_code, 4, some (FieldType.int), { frames := 0, cells := 0, slots := 0, locals := 0 })
theorem o_du_addFitter : gp_mo m_du_addFitter 3 := ⟨by decide +kernel, by decide +kernel, by decide +kernel, lw_g_of (lw_t4 (List.mem_of_getElem? (i := 110) (rfl))) rfl, lw_g_of (lw_t1 (List.mem_of_getElem? (i := 5) (by decide +kernel))) rfl⟩
theorem i_du_addFitter : Cond.instanceMethod m_du_addFitter.1 ∈ lw_g := lw_g_of (lw_t4 (List.mem_of_getElem? (i := 108) (by decide +kernel))) rfl
theorem v_du_addFitter : Cond.selects m_du_addFitter.1.cls m_du_addFitter.1 m_du_addFitter.1 ∈ lw_g := lw_g_of (lw_t4 (List.mem_of_getElem? (i := 109) (by decide +kernel))) rfl
def m_ga_change : gp_M := (⟨"GasTurn", "change", "(I)I"⟩, prog_1_method_32_code, 4, some (FieldType.int), { frames := 6, cells := 0, slots := 0, locals := 136 })
theorem o_ga_change : gp_mo m_ga_change 1 := ⟨by decide +kernel, by decide +kernel, by decide +kernel, lw_g_of (lw_t4 (List.mem_of_getElem? (i := 114) (rfl))) rfl, lw_g_of (lw_t1 (List.mem_of_getElem? (i := 1) (by decide +kernel))) rfl⟩
theorem i_ga_change : Cond.instanceMethod m_ga_change.1 ∈ lw_g := lw_g_of (lw_t4 (List.mem_of_getElem? (i := 112) (by decide +kernel))) rfl
theorem v_ga_change : Cond.selects m_ga_change.1.cls m_ga_change.1 m_ga_change.1 ∈ lw_g := lw_g_of (lw_t4 (List.mem_of_getElem? (i := 113) (by decide +kernel))) rfl
def m_se_setChanged : gp_M := (⟨"GasTurn$Sectors", "setChanged", "(I)V"⟩, prog_10_method_7_code, 4, none, { frames := 0, cells := 0, slots := 0, locals := 0 })
theorem o_se_setChanged : gp_mo m_se_setChanged 1 := ⟨by decide +kernel, by decide +kernel, by decide +kernel, lw_g_of (lw_t4 (List.mem_of_getElem? (i := 118) (rfl))) rfl, lw_g_of (lw_t1 (List.mem_of_getElem? (i := 4) (by decide +kernel))) rfl⟩
theorem i_se_setChanged : Cond.instanceMethod m_se_setChanged.1 ∈ lw_g := lw_g_of (lw_t4 (List.mem_of_getElem? (i := 116) (by decide +kernel))) rfl
theorem v_se_setChanged : Cond.selects m_se_setChanged.1.cls m_se_setChanged.1 m_se_setChanged.1 ∈ lw_g := lw_g_of (lw_t4 (List.mem_of_getElem? (i := 117) (by decide +kernel))) rfl
def m_ne_closeWorksAt : gp_M := (⟨"GasTurn$Net", "closeWorksAt", "(I)V"⟩, prog_7_method_16_code, 3, none, { frames := 1, cells := 0, slots := 0, locals := 21 })
theorem o_ne_closeWorksAt : gp_mo m_ne_closeWorksAt 1 := ⟨by decide +kernel, by decide +kernel, by decide +kernel, lw_g_of (lw_t4 (List.mem_of_getElem? (i := 122) (rfl))) rfl, lw_g_of (lw_t1 (List.mem_of_getElem? (i := 2) (by decide +kernel))) rfl⟩
theorem i_ne_closeWorksAt : Cond.instanceMethod m_ne_closeWorksAt.1 ∈ lw_g := lw_g_of (lw_t4 (List.mem_of_getElem? (i := 120) (by decide +kernel))) rfl
theorem v_ne_closeWorksAt : Cond.selects m_ne_closeWorksAt.1.cls m_ne_closeWorksAt.1 m_ne_closeWorksAt.1 ∈ lw_g := lw_g_of (lw_t4 (List.mem_of_getElem? (i := 121) (by decide +kernel))) rfl
def m_ne_partFromRest : gp_M := (⟨"GasTurn$Net", "partFromRest", "(I)V"⟩, prog_7_method_22_code, 3, none, { frames := 2, cells := 0, slots := 0, locals := 44 })
theorem o_ne_partFromRest : gp_mo m_ne_partFromRest 1 := ⟨by decide +kernel, by decide +kernel, by decide +kernel, lw_g_of (lw_t4 (List.mem_of_getElem? (i := 127) (rfl))) rfl, lw_g_of (lw_t1 (List.mem_of_getElem? (i := 2) (by decide +kernel))) rfl⟩
theorem i_ne_partFromRest : Cond.instanceMethod m_ne_partFromRest.1 ∈ lw_g := lw_g_of (lw_t4 (List.mem_of_getElem? (i := 125) (by decide +kernel))) rfl
theorem v_ne_partFromRest : Cond.selects m_ne_partFromRest.1.cls m_ne_partFromRest.1 m_ne_partFromRest.1 ∈ lw_g := lw_g_of (lw_t4 (List.mem_of_getElem? (i := 126) (by decide +kernel))) rfl
def m_ga_fitHomes : gp_M := (⟨"GasTurn", "fitHomes", "(I)I"⟩, prog_1_method_74_code, 5, some (FieldType.int), { frames := 3, cells := 0, slots := 0, locals := 70 })
theorem o_ga_fitHomes : gp_mo m_ga_fitHomes 1 := ⟨by decide +kernel, by decide +kernel, by decide +kernel, lw_g_of (lw_t4 (List.mem_of_getElem? (i := 132) (rfl))) rfl, lw_g_of (lw_t1 (List.mem_of_getElem? (i := 1) (by decide +kernel))) rfl⟩
theorem i_ga_fitHomes : Cond.instanceMethod m_ga_fitHomes.1 ∈ lw_g := lw_g_of (lw_t4 (List.mem_of_getElem? (i := 131) (by decide +kernel))) rfl
theorem v_ga_fitHomes : Cond.selects m_ga_fitHomes.1.cls m_ga_fitHomes.1 m_ga_fitHomes.1 ∈ lw_g := lw_g_of (List.mem_append_left _ (List.mem_map.mpr ⟨(m_ga_fitHomes.1, 20), by decide +kernel, rfl⟩)) rfl
def m_ga_fitOnDay : gp_M := (⟨"GasTurn", "fitOnDay", "(III)I"⟩, prog_1_method_75_code, 8, some (FieldType.int), { frames := 2, cells := 0, slots := 0, locals := 43 })
theorem o_ga_fitOnDay : gp_mo m_ga_fitOnDay 3 := ⟨by decide +kernel, by decide +kernel, by decide +kernel, lw_g_of (lw_t4 (List.mem_of_getElem? (i := 136) (rfl))) rfl, lw_g_of (lw_t1 (List.mem_of_getElem? (i := 1) (by decide +kernel))) rfl⟩
theorem i_ga_fitOnDay : Cond.instanceMethod m_ga_fitOnDay.1 ∈ lw_g := lw_g_of (lw_t4 (List.mem_of_getElem? (i := 135) (by decide +kernel))) rfl
theorem v_ga_fitOnDay : Cond.selects m_ga_fitOnDay.1.cls m_ga_fitOnDay.1 m_ga_fitOnDay.1 ∈ lw_g := lw_g_of (List.mem_append_left _ (List.mem_map.mpr ⟨(m_ga_fitOnDay.1, 20), by decide +kernel, rfl⟩)) rfl
def m_du_isTrained : gp_M := (⟨"GasTurn$Duty", "isTrained", "(II)Z"⟩, prog_2_method_5_code, 3, some (FieldType.boolean), { frames := 1, cells := 0, slots := 0, locals := 21 })
theorem o_du_isTrained : gp_mo m_du_isTrained 2 := ⟨by decide +kernel, by decide +kernel, by decide +kernel, lw_g_of (lw_t4 (List.mem_of_getElem? (i := 140) (rfl))) rfl, lw_g_of (lw_t1 (List.mem_of_getElem? (i := 5) (by decide +kernel))) rfl⟩
theorem i_du_isTrained : Cond.instanceMethod m_du_isTrained.1 ∈ lw_g := lw_g_of (lw_t4 (List.mem_of_getElem? (i := 138) (by decide +kernel))) rfl
theorem v_du_isTrained : Cond.selects m_du_isTrained.1.cls m_du_isTrained.1 m_du_isTrained.1 ∈ lw_g := lw_g_of (lw_t4 (List.mem_of_getElem? (i := 139) (by decide +kernel))) rfl
def m_ga_hasJetsFor : gp_M := (⟨"GasTurn", "hasJetsFor", "(LGasTurn$Ring;)Z"⟩, prog_1_method_76_code, 2, some (FieldType.boolean), { frames := 0, cells := 0, slots := 0, locals := 0 })
theorem o_ga_hasJetsFor : gp_mo m_ga_hasJetsFor 1 := ⟨by decide +kernel, by decide +kernel, by decide +kernel, lw_g_of (lw_t4 (List.mem_of_getElem? (i := 145) (rfl))) rfl, lw_g_of (lw_t1 (List.mem_of_getElem? (i := 1) (by decide +kernel))) rfl⟩
theorem i_ga_hasJetsFor : Cond.instanceMethod m_ga_hasJetsFor.1 ∈ lw_g := lw_g_of (lw_t4 (List.mem_of_getElem? (i := 144) (by decide +kernel))) rfl
theorem v_ga_hasJetsFor : Cond.selects m_ga_hasJetsFor.1.cls m_ga_hasJetsFor.1 m_ga_hasJetsFor.1 ∈ lw_g := lw_g_of (List.mem_append_left _ (List.mem_map.mpr ⟨(m_ga_hasJetsFor.1, 20), by decide +kernel, rfl⟩)) rfl
def m_ga_fit : gp_M := (⟨"GasTurn", "fit", "(LGasTurn$Home;II)V"⟩, prog_1_method_77_code, 4, none, { frames := 0, cells := 0, slots := 0, locals := 0 })
theorem o_ga_fit : gp_mo m_ga_fit 3 := ⟨by decide +kernel, by decide +kernel, by decide +kernel, lw_g_of (lw_t4 (List.mem_of_getElem? (i := 149) (rfl))) rfl, lw_g_of (lw_t1 (List.mem_of_getElem? (i := 1) (by decide +kernel))) rfl⟩
theorem i_ga_fit : Cond.instanceMethod m_ga_fit.1 ∈ lw_g := lw_g_of (lw_t4 (List.mem_of_getElem? (i := 148) (by decide +kernel))) rfl
theorem v_ga_fit : Cond.selects m_ga_fit.1.cls m_ga_fit.1 m_ga_fit.1 ∈ lw_g := lw_g_of (List.mem_append_left _ (List.mem_map.mpr ⟨(m_ga_fit.1, 20), by decide +kernel, rfl⟩)) rfl
def m_ga_shutOldHomes : gp_M := (⟨"GasTurn", "shutOldHomes", "(I)V"⟩, prog_1_method_78_code, 3, none, { frames := 1, cells := 0, slots := 0, locals := 21 })
theorem o_ga_shutOldHomes : gp_mo m_ga_shutOldHomes 1 := ⟨by decide +kernel, by decide +kernel, by decide +kernel, lw_g_of (lw_t4 (List.mem_of_getElem? (i := 153) (rfl))) rfl, lw_g_of (lw_t1 (List.mem_of_getElem? (i := 1) (by decide +kernel))) rfl⟩
theorem i_ga_shutOldHomes : Cond.instanceMethod m_ga_shutOldHomes.1 ∈ lw_g := lw_g_of (lw_t4 (List.mem_of_getElem? (i := 152) (by decide +kernel))) rfl
theorem v_ga_shutOldHomes : Cond.selects m_ga_shutOldHomes.1.cls m_ga_shutOldHomes.1 m_ga_shutOldHomes.1 ∈ lw_g := lw_g_of (List.mem_append_left _ (List.mem_map.mpr ⟨(m_ga_shutOldHomes.1, 20), by decide +kernel, rfl⟩)) rfl
def m_ga_endWeek : gp_M := (⟨"GasTurn", "endWeek", "()V"⟩, prog_1_method_79_code, 4, none, { frames := 4, cells := 0, slots := 0, locals := 88 })
theorem o_ga_endWeek : gp_mo m_ga_endWeek 0 := ⟨by decide +kernel, by decide +kernel, by decide +kernel, lw_g_of (lw_t4 (List.mem_of_getElem? (i := 157) (rfl))) rfl, lw_g_of (lw_t1 (List.mem_of_getElem? (i := 1) (by decide +kernel))) rfl⟩
theorem i_ga_endWeek : Cond.instanceMethod m_ga_endWeek.1 ∈ lw_g := lw_g_of (lw_t4 (List.mem_of_getElem? (i := 156) (by decide +kernel))) rfl
theorem v_ga_endWeek : Cond.selects m_ga_endWeek.1.cls m_ga_endWeek.1 m_ga_endWeek.1 ∈ lw_g := lw_g_of (List.mem_append_left _ (List.mem_map.mpr ⟨(m_ga_endWeek.1, 20), by decide +kernel, rfl⟩)) rfl
def m_ne_burnCoal : gp_M := (⟨"GasTurn$Net", "burnCoal", "(II)V"⟩, prog_7_method_17_code, 7, none, { frames := 1, cells := 0, slots := 0, locals := 22 })
theorem o_ne_burnCoal : gp_mo m_ne_burnCoal 2 := ⟨by decide +kernel, by decide +kernel, by decide +kernel, lw_g_of (lw_t4 (List.mem_of_getElem? (i := 161) (rfl))) rfl, lw_g_of (lw_t1 (List.mem_of_getElem? (i := 2) (by decide +kernel))) rfl⟩
theorem i_ne_burnCoal : Cond.instanceMethod m_ne_burnCoal.1 ∈ lw_g := lw_g_of (lw_t4 (List.mem_of_getElem? (i := 159) (by decide +kernel))) rfl
theorem v_ne_burnCoal : Cond.selects m_ne_burnCoal.1.cls m_ne_burnCoal.1 m_ne_burnCoal.1 ∈ lw_g := lw_g_of (lw_t4 (List.mem_of_getElem? (i := 160) (by decide +kernel))) rfl
def m_ne_burnPart : gp_M := (⟨"GasTurn$Net", "burnPart", "(II)V"⟩, prog_7_method_18_code, 3, none, { frames := 0, cells := 0, slots := 0, locals := 0 })
theorem o_ne_burnPart : gp_mo m_ne_burnPart 2 := ⟨by decide +kernel, by decide +kernel, by decide +kernel, lw_g_of (lw_t4 (List.mem_of_getElem? (i := 165) (rfl))) rfl, lw_g_of (lw_t1 (List.mem_of_getElem? (i := 2) (by decide +kernel))) rfl⟩
theorem i_ne_burnPart : Cond.instanceMethod m_ne_burnPart.1 ∈ lw_g := lw_g_of (lw_t4 (List.mem_of_getElem? (i := 164) (by decide +kernel))) rfl
theorem v_ne_burnPart : Cond.selects m_ne_burnPart.1.cls m_ne_burnPart.1 m_ne_burnPart.1 ∈ lw_g := lw_g_of (List.mem_append_left _ (List.mem_map.mpr ⟨(m_ne_burnPart.1, 14), by decide +kernel, rfl⟩)) rfl
def m_ga_week : gp_M := (⟨"GasTurn", "week", "()I"⟩, prog_1_method_33_code, 1, some (FieldType.int), { frames := 5, cells := 0, slots := 0, locals := 111 })
theorem o_ga_week : gp_mo m_ga_week 0 := ⟨by decide +kernel, by decide +kernel, by decide +kernel, lw_g_of (lw_t4 (List.mem_of_getElem? (i := 169) (rfl))) rfl, lw_g_of (lw_t1 (List.mem_of_getElem? (i := 1) (by decide +kernel))) rfl⟩
theorem i_ga_week : Cond.instanceMethod m_ga_week.1 ∈ lw_g := lw_g_of (lw_t4 (List.mem_of_getElem? (i := 167) (by decide +kernel))) rfl
theorem v_ga_week : Cond.selects m_ga_week.1.cls m_ga_week.1 m_ga_week.1 ∈ lw_g := lw_g_of (lw_t4 (List.mem_of_getElem? (i := 168) (by decide +kernel))) rfl
def m_ga_later : gp_M := (⟨"GasTurn", "later", "(II)I"⟩, prog_1_method_34_code, 4, some (FieldType.int), { frames := 3, cells := 0, slots := 0, locals := 64 })
theorem o_ga_later : gp_mo m_ga_later 2 := ⟨by decide +kernel, by decide +kernel, by decide +kernel, lw_g_of (lw_t4 (List.mem_of_getElem? (i := 173) (rfl))) rfl, lw_g_of (lw_t1 (List.mem_of_getElem? (i := 1) (by decide +kernel))) rfl⟩
theorem i_ga_later : Cond.instanceMethod m_ga_later.1 ∈ lw_g := lw_g_of (lw_t4 (List.mem_of_getElem? (i := 171) (by decide +kernel))) rfl
theorem v_ga_later : Cond.selects m_ga_later.1.cls m_ga_later.1 m_ga_later.1 ∈ lw_g := lw_g_of (lw_t4 (List.mem_of_getElem? (i := 172) (by decide +kernel))) rfl
def m_du_hasFitter : gp_M := (⟨"GasTurn$Duty", "hasFitter", "(I)Z"⟩, prog_2_method_2_code, 2, some (FieldType.boolean), { frames := 1, cells := 0, slots := 0, locals := 22 })
theorem o_du_hasFitter : gp_mo m_du_hasFitter 1 := ⟨by decide +kernel, by decide +kernel, by decide +kernel, lw_g_of (lw_t4 (List.mem_of_getElem? (i := 177) (rfl))) rfl, lw_g_of (lw_t1 (List.mem_of_getElem? (i := 5) (by decide +kernel))) rfl⟩
theorem i_du_hasFitter : Cond.instanceMethod m_du_hasFitter.1 ∈ lw_g := lw_g_of (lw_t4 (List.mem_of_getElem? (i := 175) (by decide +kernel))) rfl
theorem v_du_hasFitter : Cond.selects m_du_hasFitter.1.cls m_du_hasFitter.1 m_du_hasFitter.1 ∈ lw_g := lw_g_of (lw_t4 (List.mem_of_getElem? (i := 176) (by decide +kernel))) rfl
def m_ga_danger : gp_M := (⟨"GasTurn", "danger", "()I"⟩, prog_1_method_35_code, 8, some (FieldType.int), { frames := 4, cells := 0, slots := 0, locals := 89 })
theorem o_ga_danger : gp_mo m_ga_danger 0 := ⟨by decide +kernel, by decide +kernel, by decide +kernel, lw_g_of (lw_t4 (List.mem_of_getElem? (i := 182) (rfl))) rfl, lw_g_of (lw_t1 (List.mem_of_getElem? (i := 1) (by decide +kernel))) rfl⟩
theorem i_ga_danger : Cond.instanceMethod m_ga_danger.1 ∈ lw_g := lw_g_of (lw_t4 (List.mem_of_getElem? (i := 180) (by decide +kernel))) rfl
theorem v_ga_danger : Cond.selects m_ga_danger.1.cls m_ga_danger.1 m_ga_danger.1 ∈ lw_g := lw_g_of (lw_t4 (List.mem_of_getElem? (i := 181) (by decide +kernel))) rfl
def m_ga_smell : gp_M := (⟨"GasTurn", "smell", "(II)I"⟩, prog_1_method_36_code, 4, some (FieldType.int), { frames := 3, cells := 0, slots := 0, locals := 76 })
theorem o_ga_smell : gp_mo m_ga_smell 2 := ⟨by decide +kernel, by decide +kernel, by decide +kernel, lw_g_of (lw_t4 (List.mem_of_getElem? (i := 186) (rfl))) rfl, lw_g_of (lw_t1 (List.mem_of_getElem? (i := 1) (by decide +kernel))) rfl⟩
theorem i_ga_smell : Cond.instanceMethod m_ga_smell.1 ∈ lw_g := lw_g_of (lw_t4 (List.mem_of_getElem? (i := 184) (by decide +kernel))) rfl
theorem v_ga_smell : Cond.selects m_ga_smell.1.cls m_ga_smell.1 m_ga_smell.1 ∈ lw_g := lw_g_of (lw_t4 (List.mem_of_getElem? (i := 185) (by decide +kernel))) rfl
def m_du_latestMinute : gp_M := (⟨"GasTurn$Duty", "latestMinute", "()I"⟩, prog_2_method_6_code, 1, some (FieldType.int), { frames := 0, cells := 0, slots := 0, locals := 0 })
theorem o_du_latestMinute : gp_mo m_du_latestMinute 0 := ⟨by decide +kernel, by decide +kernel, by decide +kernel, lw_g_of (lw_t4 (List.mem_of_getElem? (i := 190) (rfl))) rfl, lw_g_of (lw_t1 (List.mem_of_getElem? (i := 5) (by decide +kernel))) rfl⟩
theorem i_du_latestMinute : Cond.instanceMethod m_du_latestMinute.1 ∈ lw_g := lw_g_of (lw_t4 (List.mem_of_getElem? (i := 188) (by decide +kernel))) rfl
theorem v_du_latestMinute : Cond.selects m_du_latestMinute.1.cls m_du_latestMinute.1 m_du_latestMinute.1 ∈ lw_g := lw_g_of (lw_t4 (List.mem_of_getElem? (i := 189) (by decide +kernel))) rfl
def m_du_addSmell : gp_M := (⟨"GasTurn$Duty", "addSmell", "(LGasTurn$Net;III)I"⟩, prog_2_method_7_code, 10, some (FieldType.int), { frames := 2, cells := 0, slots := 0, locals := 47 })
theorem o_du_addSmell : gp_mo m_du_addSmell 4 := ⟨by decide +kernel, by decide +kernel, by decide +kernel, lw_g_of (lw_t4 (List.mem_of_getElem? (i := 194) (rfl))) rfl, lw_g_of (lw_t1 (List.mem_of_getElem? (i := 5) (by decide +kernel))) rfl⟩
theorem i_du_addSmell : Cond.instanceMethod m_du_addSmell.1 ∈ lw_g := lw_g_of (lw_t4 (List.mem_of_getElem? (i := 192) (by decide +kernel))) rfl
theorem v_du_addSmell : Cond.selects m_du_addSmell.1.cls m_du_addSmell.1 m_du_addSmell.1 ∈ lw_g := lw_g_of (lw_t4 (List.mem_of_getElem? (i := 193) (by decide +kernel))) rfl
def m_ne_fewestPipes : gp_M := (⟨"GasTurn$Net", "fewestPipes", "(II)I"⟩, prog_7_method_24_code, 7, some (FieldType.int), { frames := 1, cells := 0, slots := 0, locals := 21 })
theorem o_ne_fewestPipes : gp_mo m_ne_fewestPipes 2 := ⟨by decide +kernel, by decide +kernel, by decide +kernel, lw_g_of (lw_t4 (List.mem_of_getElem? (i := 198) (rfl))) rfl, lw_g_of (lw_t1 (List.mem_of_getElem? (i := 2) (by decide +kernel))) rfl⟩
theorem i_ne_fewestPipes : Cond.instanceMethod m_ne_fewestPipes.1 ∈ lw_g := lw_g_of (lw_t4 (List.mem_of_getElem? (i := 196) (by decide +kernel))) rfl
theorem v_ne_fewestPipes : Cond.selects m_ne_fewestPipes.1.cls m_ne_fewestPipes.1 m_ne_fewestPipes.1 ∈ lw_g := lw_g_of (lw_t4 (List.mem_of_getElem? (i := 197) (by decide +kernel))) rfl
def m_ga_smellOf : gp_M := (⟨"GasTurn", "smellOf", "(II)I"⟩, prog_1_method_37_code, 3, some (FieldType.int), { frames := 2, cells := 0, slots := 0, locals := 43 })
theorem o_ga_smellOf : gp_mo m_ga_smellOf 2 := ⟨by decide +kernel, by decide +kernel, by decide +kernel, lw_g_of (lw_t4 (List.mem_of_getElem? (i := 203) (rfl))) rfl, lw_g_of (lw_t1 (List.mem_of_getElem? (i := 1) (by decide +kernel))) rfl⟩
theorem i_ga_smellOf : Cond.instanceMethod m_ga_smellOf.1 ∈ lw_g := lw_g_of (lw_t4 (List.mem_of_getElem? (i := 201) (by decide +kernel))) rfl
theorem v_ga_smellOf : Cond.selects m_ga_smellOf.1.cls m_ga_smellOf.1 m_ga_smellOf.1 ∈ lw_g := lw_g_of (lw_t4 (List.mem_of_getElem? (i := 202) (by decide +kernel))) rfl
def m_du_hasSmell : gp_M := (⟨"GasTurn$Duty", "hasSmell", "(I)Z"⟩, prog_2_method_3_code, 2, some (FieldType.boolean), { frames := 1, cells := 0, slots := 0, locals := 22 })
theorem o_du_hasSmell : gp_mo m_du_hasSmell 1 := ⟨by decide +kernel, by decide +kernel, by decide +kernel, lw_g_of (lw_t4 (List.mem_of_getElem? (i := 207) (rfl))) rfl, lw_g_of (lw_t1 (List.mem_of_getElem? (i := 5) (by decide +kernel))) rfl⟩
theorem i_du_hasSmell : Cond.instanceMethod m_du_hasSmell.1 ∈ lw_g := lw_g_of (lw_t4 (List.mem_of_getElem? (i := 205) (by decide +kernel))) rfl
theorem v_du_hasSmell : Cond.selects m_du_hasSmell.1.cls m_du_hasSmell.1 m_du_hasSmell.1 ∈ lw_g := lw_g_of (lw_t4 (List.mem_of_getElem? (i := 206) (by decide +kernel))) rfl
def m_du_isLate : gp_M := (⟨"GasTurn$Duty", "isLate", "(I)Z"⟩, prog_2_method_8_code, 2, some (FieldType.boolean), { frames := 0, cells := 0, slots := 0, locals := 0 })
theorem o_du_isLate : gp_mo m_du_isLate 1 := ⟨by decide +kernel, by decide +kernel, by decide +kernel, lw_g_of (lw_t4 (List.mem_of_getElem? (i := 211) (rfl))) rfl, lw_g_of (lw_t1 (List.mem_of_getElem? (i := 5) (by decide +kernel))) rfl⟩
theorem i_du_isLate : Cond.instanceMethod m_du_isLate.1 ∈ lw_g := lw_g_of (lw_t4 (List.mem_of_getElem? (i := 209) (by decide +kernel))) rfl
theorem v_du_isLate : Cond.selects m_du_isLate.1.cls m_du_isLate.1 m_du_isLate.1 ∈ lw_g := lw_g_of (lw_t4 (List.mem_of_getElem? (i := 210) (by decide +kernel))) rfl
def m_ga_limit : gp_M := (⟨"GasTurn", "limit", "(I)I"⟩, prog_1_method_38_code, 3, some (FieldType.int), { frames := 1, cells := 0, slots := 0, locals := 22 })
theorem o_ga_limit : gp_mo m_ga_limit 1 := ⟨by decide +kernel, by decide +kernel, by decide +kernel, lw_g_of (lw_t4 (List.mem_of_getElem? (i := 215) (rfl))) rfl, lw_g_of (lw_t1 (List.mem_of_getElem? (i := 1) (by decide +kernel))) rfl⟩
theorem i_ga_limit : Cond.instanceMethod m_ga_limit.1 ∈ lw_g := lw_g_of (lw_t4 (List.mem_of_getElem? (i := 213) (by decide +kernel))) rfl
theorem v_ga_limit : Cond.selects m_ga_limit.1.cls m_ga_limit.1 m_ga_limit.1 ∈ lw_g := lw_g_of (lw_t4 (List.mem_of_getElem? (i := 214) (by decide +kernel))) rfl
def m_ga_fault : gp_M := (⟨"GasTurn", "fault", "(I)I"⟩, prog_1_method_39_code, 3, some (FieldType.int), { frames := 2, cells := 0, slots := 0, locals := 43 })
theorem o_ga_fault : gp_mo m_ga_fault 1 := ⟨by decide +kernel, by decide +kernel, by decide +kernel, lw_g_of (lw_t4 (List.mem_of_getElem? (i := 219) (rfl))) rfl, lw_g_of (lw_t1 (List.mem_of_getElem? (i := 1) (by decide +kernel))) rfl⟩
theorem i_ga_fault : Cond.instanceMethod m_ga_fault.1 ∈ lw_g := lw_g_of (lw_t4 (List.mem_of_getElem? (i := 217) (by decide +kernel))) rfl
theorem v_ga_fault : Cond.selects m_ga_fault.1.cls m_ga_fault.1 m_ga_fault.1 ∈ lw_g := lw_g_of (lw_t4 (List.mem_of_getElem? (i := 218) (by decide +kernel))) rfl
def m_ga_faults : gp_M := (⟨"GasTurn", "faults", "()I"⟩, prog_1_method_80_code, 3, some (FieldType.int), { frames := 0, cells := 0, slots := 0, locals := 0 })
theorem o_ga_faults : gp_mo m_ga_faults 0 := ⟨by decide +kernel, by decide +kernel, by decide +kernel, lw_g_of (lw_t4 (List.mem_of_getElem? (i := 223) (rfl))) rfl, lw_g_of (lw_t1 (List.mem_of_getElem? (i := 1) (by decide +kernel))) rfl⟩
theorem i_ga_faults : Cond.instanceMethod m_ga_faults.1 ∈ lw_g := lw_g_of (lw_t4 (List.mem_of_getElem? (i := 222) (by decide +kernel))) rfl
theorem v_ga_faults : Cond.selects m_ga_faults.1.cls m_ga_faults.1 m_ga_faults.1 ∈ lw_g := lw_g_of (List.mem_append_left _ (List.mem_map.mpr ⟨(m_ga_faults.1, 20), by decide +kernel, rfl⟩)) rfl
def m_ga_beyond : gp_M := (⟨"GasTurn", "beyond", "(II)I"⟩, prog_1_method_40_code, 10, some (FieldType.int), { frames := 2, cells := 0, slots := 0, locals := 43 })
theorem o_ga_beyond : gp_mo m_ga_beyond 2 := ⟨by decide +kernel, by decide +kernel, by decide +kernel, lw_g_of (lw_t4 (List.mem_of_getElem? (i := 227) (rfl))) rfl, lw_g_of (lw_t1 (List.mem_of_getElem? (i := 1) (by decide +kernel))) rfl⟩
theorem i_ga_beyond : Cond.instanceMethod m_ga_beyond.1 ∈ lw_g := lw_g_of (lw_t4 (List.mem_of_getElem? (i := 225) (by decide +kernel))) rfl
theorem v_ga_beyond : Cond.selects m_ga_beyond.1.cls m_ga_beyond.1 m_ga_beyond.1 ∈ lw_g := lw_g_of (lw_t4 (List.mem_of_getElem? (i := 226) (by decide +kernel))) rfl
def m_ga_choose : gp_M := (⟨"GasTurn", "choose", "(II)J"⟩, prog_1_method_57_code, 5, some (FieldType.long), { frames := 0, cells := 0, slots := 0, locals := 0 })
theorem o_ga_choose : gp_mo m_ga_choose 2 := ⟨by decide +kernel, by decide +kernel, by decide +kernel, lw_g_of (lw_t4 (List.mem_of_getElem? (i := 230) (rfl))) rfl, lw_g_of (lw_t1 (List.mem_of_getElem? (i := 1) (by decide +kernel))) rfl⟩
theorem i_ga_choose : Cond.static m_ga_choose.1 ∈ lw_g := lw_g_of (lw_t4 (List.mem_of_getElem? (i := 229) (by decide +kernel))) rfl
def m_ga_feed : gp_M := (⟨"GasTurn", "feed", "(II)I"⟩, prog_1_method_41_code, 3, some (FieldType.int), { frames := 1, cells := 0, slots := 0, locals := 23 })
theorem o_ga_feed : gp_mo m_ga_feed 2 := ⟨by decide +kernel, by decide +kernel, by decide +kernel, lw_g_of (lw_t4 (List.mem_of_getElem? (i := 235) (rfl))) rfl, lw_g_of (lw_t1 (List.mem_of_getElem? (i := 1) (by decide +kernel))) rfl⟩
theorem i_ga_feed : Cond.instanceMethod m_ga_feed.1 ∈ lw_g := lw_g_of (lw_t4 (List.mem_of_getElem? (i := 233) (by decide +kernel))) rfl
theorem v_ga_feed : Cond.selects m_ga_feed.1.cls m_ga_feed.1 m_ga_feed.1 ∈ lw_g := lw_g_of (lw_t4 (List.mem_of_getElem? (i := 234) (by decide +kernel))) rfl
def m_la_addBytes : gp_M := (⟨"GasTurn$Laws", "addBytes", "(II)I"⟩, prog_6_method_2_code, 4, some (FieldType.int), { frames := 0, cells := 0, slots := 0, locals := 0 })
theorem o_la_addBytes : gp_mo m_la_addBytes 2 := ⟨by decide +kernel, by decide +kernel, by decide +kernel, lw_g_of (lw_t4 (List.mem_of_getElem? (i := 239) (rfl))) rfl, lw_g_of (lw_t1 (List.mem_of_getElem? (i := 6) (by decide +kernel))) rfl⟩
theorem i_la_addBytes : Cond.instanceMethod m_la_addBytes.1 ∈ lw_g := lw_g_of (lw_t4 (List.mem_of_getElem? (i := 237) (by decide +kernel))) rfl
theorem v_la_addBytes : Cond.selects m_la_addBytes.1.cls m_la_addBytes.1 m_la_addBytes.1 ∈ lw_g := lw_g_of (lw_t4 (List.mem_of_getElem? (i := 238) (by decide +kernel))) rfl
def m_ga_law : gp_M := (⟨"GasTurn", "law", "()I"⟩, prog_1_method_42_code, 1, some (FieldType.int), { frames := 7, cells := 0, slots := 0, locals := 154 })
theorem o_ga_law : gp_mo m_ga_law 0 := ⟨by decide +kernel, by decide +kernel, by decide +kernel, lw_g_of (lw_t5 (List.mem_of_getElem? (i := 3) (rfl))) rfl, lw_g_of (lw_t1 (List.mem_of_getElem? (i := 1) (by decide +kernel))) rfl⟩
theorem i_ga_law : Cond.instanceMethod m_ga_law.1 ∈ lw_g := lw_g_of (lw_t5 (List.mem_of_getElem? (i := 1) (by decide +kernel))) rfl
theorem v_ga_law : Cond.selects m_ga_law.1.cls m_ga_law.1 m_ga_law.1 ∈ lw_g := lw_g_of (lw_t5 (List.mem_of_getElem? (i := 2) (by decide +kernel))) rfl
def m_la_readTape : gp_M := (⟨"GasTurn$Laws", "readTape", "()I"⟩, prog_6_method_3_code, 3, some (FieldType.int), { frames := 6, cells := 0, slots := 0, locals := 132 })
theorem o_la_readTape : gp_mo m_la_readTape 0 := ⟨by decide +kernel, by decide +kernel, by decide +kernel, lw_g_of (lw_t5 (List.mem_of_getElem? (i := 7) (rfl))) rfl, lw_g_of (lw_t1 (List.mem_of_getElem? (i := 6) (by decide +kernel))) rfl⟩
theorem i_la_readTape : Cond.instanceMethod m_la_readTape.1 ∈ lw_g := lw_g_of (lw_t5 (List.mem_of_getElem? (i := 5) (by decide +kernel))) rfl
theorem v_la_readTape : Cond.selects m_la_readTape.1.cls m_la_readTape.1 m_la_readTape.1 ∈ lw_g := lw_g_of (lw_t5 (List.mem_of_getElem? (i := 6) (by decide +kernel))) rfl
def m_la_match : gp_M := (⟨"GasTurn$Laws", "match", "(Ljava/lang/String;)I"⟩, prog_6_method_5_code, 7, some (FieldType.int), { frames := 5, cells := 0, slots := 0, locals := 106 })
theorem o_la_match : gp_mo m_la_match 1 := ⟨by decide +kernel, by decide +kernel, by decide +kernel, lw_g_of (lw_t5 (List.mem_of_getElem? (i := 12) (rfl))) rfl, lw_g_of (lw_t1 (List.mem_of_getElem? (i := 6) (by decide +kernel))) rfl⟩
theorem i_la_match : Cond.instanceMethod m_la_match.1 ∈ lw_g := lw_g_of (lw_t5 (List.mem_of_getElem? (i := 11) (by decide +kernel))) rfl
theorem v_la_match : Cond.selects m_la_match.1.cls m_la_match.1 m_la_match.1 ∈ lw_g := lw_g_of (List.mem_append_left _ (List.mem_map.mpr ⟨(m_la_match.1, 9), by decide +kernel, rfl⟩)) rfl
def m_st_length : gp_M := (⟨"java/lang/String", "length", "()I"⟩, prog_17_method_54_code, 1, some (FieldType.int), { frames := 1, cells := 0, slots := 0, locals := 20 })
theorem o_st_length : gp_mo m_st_length 0 := ⟨by decide +kernel, by decide +kernel, by decide +kernel, lw_g_of (lw_t5 (List.mem_of_getElem? (i := 16) (rfl))) rfl, lw_g_of (lw_t1 (List.mem_of_getElem? (i := 17) (by decide +kernel))) rfl⟩
theorem i_st_length : Cond.instanceMethod m_st_length.1 ∈ lw_g := lw_g_of (lw_t5 (List.mem_of_getElem? (i := 14) (by decide +kernel))) rfl
theorem v_st_length : Cond.selects m_st_length.1.cls m_st_length.1 m_st_length.1 ∈ lw_g := lw_g_of (lw_t5 (List.mem_of_getElem? (i := 15) (by decide +kernel))) rfl
def m_st_coder : gp_M := (⟨"java/lang/String", "coder", "()B"⟩, prog_17_method_152_code, 1, some (FieldType.byte), { frames := 0, cells := 0, slots := 0, locals := 0 })
theorem o_st_coder : gp_mo m_st_coder 0 := ⟨by decide +kernel, by decide +kernel, by decide +kernel, lw_g_of (lw_t5 (List.mem_of_getElem? (i := 20) (rfl))) rfl, lw_g_of (lw_t1 (List.mem_of_getElem? (i := 17) (by decide +kernel))) rfl⟩
theorem i_st_coder : Cond.instanceMethod m_st_coder.1 ∈ lw_g := lw_g_of (lw_t5 (List.mem_of_getElem? (i := 18) (by decide +kernel))) rfl
theorem v_st_coder : Cond.selects m_st_coder.1.cls m_st_coder.1 m_st_coder.1 ∈ lw_g := lw_g_of (lw_t5 (List.mem_of_getElem? (i := 19) (by decide +kernel))) rfl
def m_st_charAt : gp_M := (⟨"java/lang/String", "charAt", "(I)C"⟩, prog_17_method_56_code, 2, some (FieldType.char), { frames := 4, cells := 0, slots := 0, locals := 85 })
theorem o_st_charAt : gp_mo m_st_charAt 1 := ⟨by decide +kernel, by decide +kernel, by decide +kernel, lw_g_of (lw_t5 (List.mem_of_getElem? (i := 26) (rfl))) rfl, lw_g_of (lw_t1 (List.mem_of_getElem? (i := 17) (by decide +kernel))) rfl⟩
theorem i_st_charAt : Cond.instanceMethod m_st_charAt.1 ∈ lw_g := lw_g_of (lw_t5 (List.mem_of_getElem? (i := 24) (by decide +kernel))) rfl
theorem v_st_charAt : Cond.selects m_st_charAt.1.cls m_st_charAt.1 m_st_charAt.1 ∈ lw_g := lw_g_of (lw_t5 (List.mem_of_getElem? (i := 25) (by decide +kernel))) rfl
def m_st_isLatin1 : gp_M := (⟨"java/lang/String", "isLatin1", "()Z"⟩, prog_17_method_154_code, 1, some (FieldType.boolean), { frames := 0, cells := 0, slots := 0, locals := 0 })
theorem o_st_isLatin1 : gp_mo m_st_isLatin1 0 := ⟨by decide +kernel, by decide +kernel, by decide +kernel, lw_g_of (lw_t5 (List.mem_of_getElem? (i := 30) (rfl))) rfl, lw_g_of (lw_t1 (List.mem_of_getElem? (i := 17) (by decide +kernel))) rfl⟩
theorem i_st_isLatin1 : Cond.instanceMethod m_st_isLatin1.1 ∈ lw_g := lw_g_of (lw_t5 (List.mem_of_getElem? (i := 28) (by decide +kernel))) rfl
theorem v_st_isLatin1 : Cond.selects m_st_isLatin1.1.cls m_st_isLatin1.1 m_st_isLatin1.1 ∈ lw_g := lw_g_of (lw_t5 (List.mem_of_getElem? (i := 29) (by decide +kernel))) rfl
def m_sl_charAt : gp_M := (⟨"java/lang/StringLatin1", "charAt", "([BI)C"⟩, prog_18_method_2_code, 2, some (FieldType.char), { frames := 2, cells := 0, slots := 0, locals := 43 })
theorem o_sl_charAt : gp_mo m_sl_charAt 2 := ⟨by decide +kernel, by decide +kernel, by decide +kernel, lw_g_of (lw_t5 (List.mem_of_getElem? (i := 33) (rfl))) rfl, lw_g_of (lw_t1 (List.mem_of_getElem? (i := 18) (by decide +kernel))) rfl⟩
theorem i_sl_charAt : Cond.static m_sl_charAt.1 ∈ lw_g := lw_g_of (lw_t5 (List.mem_of_getElem? (i := 32) (by decide +kernel))) rfl
def m_st_checkIndex : gp_M := (⟨"java/lang/String", "checkIndex", "(II)V"⟩, prog_17_method_155_code, 2, none, { frames := 1, cells := 0, slots := 0, locals := 22 })
theorem o_st_checkIndex : gp_mo m_st_checkIndex 2 := ⟨by decide +kernel, by decide +kernel, by decide +kernel, lw_g_of (lw_t5 (List.mem_of_getElem? (i := 36) (rfl))) rfl, lw_g_of (lw_t1 (List.mem_of_getElem? (i := 17) (by decide +kernel))) rfl⟩
theorem i_st_checkIndex : Cond.static m_st_checkIndex.1 ∈ lw_g := lw_g_of (lw_t5 (List.mem_of_getElem? (i := 35) (by decide +kernel))) rfl
def m_pr_checkIndex : gp_M := (⟨"jdk/internal/util/Preconditions", "checkIndex", "(IILjava/util/function/BiFunction;)I"⟩, prog_22_method_11_code, 3, some (FieldType.int), { frames := 0, cells := 0, slots := 0, locals := 0 })
theorem o_pr_checkIndex : gp_mo m_pr_checkIndex 3 := ⟨by decide +kernel, by decide +kernel, by decide +kernel, lw_g_of (lw_t5 (List.mem_of_getElem? (i := 41) (rfl))) rfl, lw_g_of (lw_t1 (List.mem_of_getElem? (i := 19) (by decide +kernel))) rfl⟩
theorem i_pr_checkIndex : Cond.static m_pr_checkIndex.1 ∈ lw_g := lw_g_of (lw_t5 (List.mem_of_getElem? (i := 40) (by decide +kernel))) rfl
def m_su_charAt : gp_M := (⟨"java/lang/StringUTF16", "charAt", "([BI)C"⟩, prog_19_method_83_code, 2, some (FieldType.char), { frames := 3, cells := 0, slots := 0, locals := 64 })
theorem o_su_charAt : gp_mo m_su_charAt 2 := ⟨by decide +kernel, by decide +kernel, by decide +kernel, lw_g_of (lw_t5 (List.mem_of_getElem? (i := 44) (rfl))) rfl, lw_g_of (lw_t1 (List.mem_of_getElem? (i := 20) (by decide +kernel))) rfl⟩
theorem i_su_charAt : Cond.static m_su_charAt.1 ∈ lw_g := lw_g_of (lw_t5 (List.mem_of_getElem? (i := 43) (by decide +kernel))) rfl
def m_su_checkIndex : gp_M := (⟨"java/lang/StringUTF16", "checkIndex", "(I[B)V"⟩, prog_19_method_91_code, 2, none, { frames := 2, cells := 0, slots := 0, locals := 43 })
theorem o_su_checkIndex : gp_mo m_su_checkIndex 2 := ⟨by decide +kernel, by decide +kernel, by decide +kernel, lw_g_of (lw_t5 (List.mem_of_getElem? (i := 47) (rfl))) rfl, lw_g_of (lw_t1 (List.mem_of_getElem? (i := 20) (by decide +kernel))) rfl⟩
theorem i_su_checkIndex : Cond.static m_su_checkIndex.1 ∈ lw_g := lw_g_of (lw_t5 (List.mem_of_getElem? (i := 46) (by decide +kernel))) rfl
def m_su_length : gp_M := (⟨"java/lang/StringUTF16", "length", "([B)I"⟩, prog_19_method_6_code, 1, some (FieldType.int), { frames := 0, cells := 0, slots := 0, locals := 0 })
theorem o_su_length : gp_mo m_su_length 1 := ⟨by decide +kernel, by decide +kernel, by decide +kernel, lw_g_of (lw_t5 (List.mem_of_getElem? (i := 50) (rfl))) rfl, lw_g_of (lw_t1 (List.mem_of_getElem? (i := 20) (by decide +kernel))) rfl⟩
theorem i_su_length : Cond.static m_su_length.1 ∈ lw_g := lw_g_of (lw_t5 (List.mem_of_getElem? (i := 49) (by decide +kernel))) rfl
def m_su_getChar : gp_M := (⟨"java/lang/StringUTF16", "getChar", "([BI)C"⟩, prog_19_method_5_code, 2, some (FieldType.char), { frames := 1, cells := 0, slots := 0, locals := 20 })
theorem o_su_getChar : gp_mo m_su_getChar 2 := ⟨by decide +kernel, by decide +kernel, by decide +kernel, lw_g_of (lw_t5 (List.mem_of_getElem? (i := 54) (rfl))) rfl, lw_g_of (lw_t1 (List.mem_of_getElem? (i := 20) (by decide +kernel))) rfl⟩
theorem i_su_getChar : Cond.static m_su_getChar.1 ∈ lw_g := lw_g_of (lw_t5 (List.mem_of_getElem? (i := 53) (by decide +kernel))) rfl
def m_la_isDigit : gp_M := (⟨"GasTurn$Laws", "isDigit", "(I)Z"⟩, prog_6_method_6_code, 1, some (FieldType.boolean), { frames := 0, cells := 0, slots := 0, locals := 0 })
theorem o_la_isDigit : gp_mo m_la_isDigit 1 := ⟨by decide +kernel, by decide +kernel, by decide +kernel, lw_g_of (lw_t5 (List.mem_of_getElem? (i := 63) (rfl))) rfl, lw_g_of (lw_t1 (List.mem_of_getElem? (i := 6) (by decide +kernel))) rfl⟩
theorem i_la_isDigit : Cond.static m_la_isDigit.1 ∈ lw_g := lw_g_of (lw_t5 (List.mem_of_getElem? (i := 62) (by decide +kernel))) rfl
def m_la_endOfDigits : gp_M := (⟨"GasTurn$Laws", "endOfDigits", "(II)I"⟩, prog_6_method_7_code, 4, some (FieldType.int), { frames := 1, cells := 0, slots := 0, locals := 20 })
theorem o_la_endOfDigits : gp_mo m_la_endOfDigits 2 := ⟨by decide +kernel, by decide +kernel, by decide +kernel, lw_g_of (lw_t5 (List.mem_of_getElem? (i := 67) (rfl))) rfl, lw_g_of (lw_t1 (List.mem_of_getElem? (i := 6) (by decide +kernel))) rfl⟩
theorem i_la_endOfDigits : Cond.instanceMethod m_la_endOfDigits.1 ∈ lw_g := lw_g_of (lw_t5 (List.mem_of_getElem? (i := 66) (by decide +kernel))) rfl
theorem v_la_endOfDigits : Cond.selects m_la_endOfDigits.1.cls m_la_endOfDigits.1 m_la_endOfDigits.1 ∈ lw_g := lw_g_of (List.mem_append_left _ (List.mem_map.mpr ⟨(m_la_endOfDigits.1, 9), by decide +kernel, rfl⟩)) rfl
def m_la_valueOf : gp_M := (⟨"GasTurn$Laws", "valueOf", "(II)I"⟩, prog_6_method_8_code, 5, some (FieldType.int), { frames := 0, cells := 0, slots := 0, locals := 0 })
theorem o_la_valueOf : gp_mo m_la_valueOf 2 := ⟨by decide +kernel, by decide +kernel, by decide +kernel, lw_g_of (lw_t5 (List.mem_of_getElem? (i := 71) (rfl))) rfl, lw_g_of (lw_t1 (List.mem_of_getElem? (i := 6) (by decide +kernel))) rfl⟩
theorem i_la_valueOf : Cond.instanceMethod m_la_valueOf.1 ∈ lw_g := lw_g_of (lw_t5 (List.mem_of_getElem? (i := 70) (by decide +kernel))) rfl
theorem v_la_valueOf : Cond.selects m_la_valueOf.1.cls m_la_valueOf.1 m_la_valueOf.1 ∈ lw_g := lw_g_of (List.mem_append_left _ (List.mem_map.mpr ⟨(m_la_valueOf.1, 9), by decide +kernel, rfl⟩)) rfl
def m_la_addLaw : gp_M := (⟨"GasTurn$Laws", "addLaw", "(ZIIII)I"⟩, prog_6_method_4_code, 6, some (FieldType.int), { frames := 0, cells := 0, slots := 0, locals := 0 })
theorem o_la_addLaw : gp_mo m_la_addLaw 5 := ⟨by decide +kernel, by decide +kernel, by decide +kernel, lw_g_of (lw_t5 (List.mem_of_getElem? (i := 75) (rfl))) rfl, lw_g_of (lw_t1 (List.mem_of_getElem? (i := 6) (by decide +kernel))) rfl⟩
theorem i_la_addLaw : Cond.instanceMethod m_la_addLaw.1 ∈ lw_g := lw_g_of (lw_t5 (List.mem_of_getElem? (i := 74) (by decide +kernel))) rfl
theorem v_la_addLaw : Cond.selects m_la_addLaw.1.cls m_la_addLaw.1 m_la_addLaw.1 ∈ lw_g := lw_g_of (List.mem_append_left _ (List.mem_map.mpr ⟨(m_la_addLaw.1, 9), by decide +kernel, rfl⟩)) rfl
def m_ga_bill : gp_M := (⟨"GasTurn", "bill", "(I)I"⟩, prog_1_method_43_code, 3, some (FieldType.int), { frames := 2, cells := 0, slots := 0, locals := 43 })
theorem o_ga_bill : gp_mo m_ga_bill 1 := ⟨by decide +kernel, by decide +kernel, by decide +kernel, lw_g_of (lw_t5 (List.mem_of_getElem? (i := 82) (rfl))) rfl, lw_g_of (lw_t1 (List.mem_of_getElem? (i := 1) (by decide +kernel))) rfl⟩
theorem i_ga_bill : Cond.instanceMethod m_ga_bill.1 ∈ lw_g := lw_g_of (lw_t5 (List.mem_of_getElem? (i := 80) (by decide +kernel))) rfl
theorem v_ga_bill : Cond.selects m_ga_bill.1.cls m_ga_bill.1 m_ga_bill.1 ∈ lw_g := lw_g_of (lw_t5 (List.mem_of_getElem? (i := 81) (by decide +kernel))) rfl
def m_la_payFor : gp_M := (⟨"GasTurn$Laws", "payFor", "(II)I"⟩, prog_6_method_10_code, 4, some (FieldType.int), { frames := 0, cells := 0, slots := 0, locals := 0 })
theorem o_la_payFor : gp_mo m_la_payFor 2 := ⟨by decide +kernel, by decide +kernel, by decide +kernel, lw_g_of (lw_t5 (List.mem_of_getElem? (i := 86) (rfl))) rfl, lw_g_of (lw_t1 (List.mem_of_getElem? (i := 6) (by decide +kernel))) rfl⟩
theorem i_la_payFor : Cond.instanceMethod m_la_payFor.1 ∈ lw_g := lw_g_of (lw_t5 (List.mem_of_getElem? (i := 84) (by decide +kernel))) rfl
theorem v_la_payFor : Cond.selects m_la_payFor.1.cls m_la_payFor.1 m_la_payFor.1 ∈ lw_g := lw_g_of (lw_t5 (List.mem_of_getElem? (i := 85) (by decide +kernel))) rfl
def m_ga_act : gp_M := (⟨"GasTurn", "act", "(III)I"⟩, prog_1_method_44_code, 5, some (FieldType.int), { frames := 7, cells := 0, slots := 0, locals := 147 })
theorem o_ga_act : gp_mo m_ga_act 3 := ⟨by decide +kernel, by decide +kernel, by decide +kernel, lw_g_of (lw_t5 (List.mem_of_getElem? (i := 90) (rfl))) rfl, lw_g_of (lw_t1 (List.mem_of_getElem? (i := 1) (by decide +kernel))) rfl⟩
theorem i_ga_act : Cond.instanceMethod m_ga_act.1 ∈ lw_g := lw_g_of (lw_t5 (List.mem_of_getElem? (i := 88) (by decide +kernel))) rfl
theorem v_ga_act : Cond.selects m_ga_act.1.cls m_ga_act.1 m_ga_act.1 ∈ lw_g := lw_g_of (lw_t5 (List.mem_of_getElem? (i := 89) (by decide +kernel))) rfl
def m_fi_burns : gp_M := (⟨"GasTurn$Fire", "burns", "(I)I"⟩, prog_3_method_3_code, 2, some (FieldType.int), { frames := 2, cells := 0, slots := 0, locals := 42 })
theorem o_fi_burns : gp_mo m_fi_burns 1 := ⟨by decide +kernel, by decide +kernel, by decide +kernel, lw_g_of (lw_t5 (List.mem_of_getElem? (i := 97) (rfl))) rfl, lw_g_of (lw_t1 (List.mem_of_getElem? (i := 14) (by decide +kernel))) rfl⟩
theorem i_fi_burns : Cond.instanceMethod m_fi_burns.1 ∈ lw_g := lw_g_of (lw_t5 (List.mem_of_getElem? (i := 96) (by decide +kernel))) rfl
theorem v_fi_burns : Cond.selects m_fi_burns.1.cls m_fi_burns.1 m_fi_burns.1 ∈ lw_g := lw_g_of (lw_t8 (List.mem_of_getElem? (i := 92) (by decide +kernel))) rfl
def m_tr_begin : gp_M := (⟨"GasTurn$Trace", "begin", "(I)V"⟩, prog_12_method_2_code, 2, none, { frames := 0, cells := 0, slots := 0, locals := 0 })
theorem o_tr_begin : gp_mo m_tr_begin 1 := ⟨by decide +kernel, by decide +kernel, by decide +kernel, lw_g_of (lw_t5 (List.mem_of_getElem? (i := 101) (rfl))) rfl, lw_g_of (lw_t1 (List.mem_of_getElem? (i := 3) (by decide +kernel))) rfl⟩
theorem i_tr_begin : Cond.instanceMethod m_tr_begin.1 ∈ lw_g := lw_g_of (lw_t5 (List.mem_of_getElem? (i := 99) (by decide +kernel))) rfl
theorem v_tr_begin : Cond.selects m_tr_begin.1.cls m_tr_begin.1 m_tr_begin.1 ∈ lw_g := lw_g_of (lw_t5 (List.mem_of_getElem? (i := 100) (by decide +kernel))) rfl
def m_gr_burns : gp_M := (⟨"GasTurn$Grill", "burns", "(I)I"⟩, prog_4_method_3_code, 2, some (FieldType.int), { frames := 2, cells := 0, slots := 0, locals := 42 })
theorem o_gr_burns : gp_mo m_gr_burns 1 := ⟨by decide +kernel, by decide +kernel, by decide +kernel, lw_g_of (lw_t5 (List.mem_of_getElem? (i := 105) (rfl))) rfl, lw_g_of (lw_t1 (List.mem_of_getElem? (i := 13) (by decide +kernel))) rfl⟩
theorem i_gr_burns : Cond.instanceMethod m_gr_burns.1 ∈ lw_g := lw_g_of (lw_t5 (List.mem_of_getElem? (i := 104) (by decide +kernel))) rfl
def m_ri_burns : gp_M := (⟨"GasTurn$Ring", "burns", "(I)I"⟩, prog_9_method_4_code, 2, some (FieldType.int), { frames := 1, cells := 0, slots := 0, locals := 21 })
theorem o_ri_burns : gp_mo m_ri_burns 1 := ⟨by decide +kernel, by decide +kernel, by decide +kernel, lw_g_of (lw_t5 (List.mem_of_getElem? (i := 111) (rfl))) rfl, lw_g_of (lw_t1 (List.mem_of_getElem? (i := 11) (by decide +kernel))) rfl⟩
theorem i_ri_burns : Cond.instanceMethod m_ri_burns.1 ∈ lw_g := lw_g_of (lw_t5 (List.mem_of_getElem? (i := 92) (by decide +kernel))) rfl
theorem v_ri_burns : Cond.selects m_ri_burns.1.cls m_ri_burns.1 m_ri_burns.1 ∈ lw_g := lw_g_of (lw_t5 (List.mem_of_getElem? (i := 93) (by decide +kernel))) rfl
def m_fi_warms : gp_M := (⟨"GasTurn$Fire", "warms", "(I)I"⟩, prog_3_method_4_code, 2, some (FieldType.int), { frames := 4, cells := 0, slots := 0, locals := 84 })
theorem o_fi_warms : gp_mo m_fi_warms 1 := ⟨by decide +kernel, by decide +kernel, by decide +kernel, lw_g_of (lw_t5 (List.mem_of_getElem? (i := 119) (rfl))) rfl, lw_g_of (lw_t1 (List.mem_of_getElem? (i := 14) (by decide +kernel))) rfl⟩
theorem i_fi_warms : Cond.instanceMethod m_fi_warms.1 ∈ lw_g := lw_g_of (lw_t5 (List.mem_of_getElem? (i := 118) (by decide +kernel))) rfl
def m_ov_warms : gp_M := (⟨"GasTurn$Oven", "warms", "(I)I"⟩, prog_8_method_3_code, 2, some (FieldType.int), { frames := 4, cells := 0, slots := 0, locals := 84 })
theorem o_ov_warms : gp_mo m_ov_warms 1 := ⟨by decide +kernel, by decide +kernel, by decide +kernel, lw_g_of (lw_t5 (List.mem_of_getElem? (i := 124) (rfl))) rfl, lw_g_of (lw_t1 (List.mem_of_getElem? (i := 12) (by decide +kernel))) rfl⟩
theorem i_ov_warms : Cond.instanceMethod m_ov_warms.1 ∈ lw_g := lw_g_of (lw_t5 (List.mem_of_getElem? (i := 123) (by decide +kernel))) rfl
def m_ri_warms : gp_M := (⟨"GasTurn$Ring", "warms", "(I)I"⟩, prog_9_method_5_code, 2, some (FieldType.int), { frames := 3, cells := 0, slots := 0, locals := 63 })
theorem o_ri_warms : gp_mo m_ri_warms 1 := ⟨by decide +kernel, by decide +kernel, by decide +kernel, lw_g_of (lw_t5 (List.mem_of_getElem? (i := 128) (rfl))) rfl, lw_g_of (lw_t1 (List.mem_of_getElem? (i := 11) (by decide +kernel))) rfl⟩
theorem i_ri_warms : Cond.instanceMethod m_ri_warms.1 ∈ lw_g := lw_g_of (lw_t5 (List.mem_of_getElem? (i := 114) (by decide +kernel))) rfl
theorem v_ri_warms : Cond.selects m_ri_warms.1.cls m_ri_warms.1 m_ri_warms.1 ∈ lw_g := lw_g_of (lw_t5 (List.mem_of_getElem? (i := 115) (by decide +kernel))) rfl
def m_gr_fits : gp_M := (⟨"GasTurn$Grill", "fits", "(I)I"⟩, prog_4_method_4_code, 2, some (FieldType.int), { frames := 6, cells := 0, slots := 0, locals := 126 })
theorem o_gr_fits : gp_mo m_gr_fits 1 := ⟨by decide +kernel, by decide +kernel, by decide +kernel, lw_g_of (lw_t5 (List.mem_of_getElem? (i := 137) (rfl))) rfl, lw_g_of (lw_t1 (List.mem_of_getElem? (i := 13) (by decide +kernel))) rfl⟩
theorem i_gr_fits : Cond.instanceMethod m_gr_fits.1 ∈ lw_g := lw_g_of (lw_t5 (List.mem_of_getElem? (i := 136) (by decide +kernel))) rfl
def m_ri_fits : gp_M := (⟨"GasTurn$Ring", "fits", "(I)I"⟩, prog_9_method_6_code, 2, some (FieldType.int), { frames := 5, cells := 0, slots := 0, locals := 105 })
theorem o_ri_fits : gp_mo m_ri_fits 1 := ⟨by decide +kernel, by decide +kernel, by decide +kernel, lw_g_of (lw_t5 (List.mem_of_getElem? (i := 142) (rfl))) rfl, lw_g_of (lw_t1 (List.mem_of_getElem? (i := 11) (by decide +kernel))) rfl⟩
theorem i_ri_fits : Cond.instanceMethod m_ri_fits.1 ∈ lw_g := lw_g_of (lw_t5 (List.mem_of_getElem? (i := 131) (by decide +kernel))) rfl
theorem v_ri_fits : Cond.selects m_ri_fits.1.cls m_ri_fits.1 m_ri_fits.1 ∈ lw_g := lw_g_of (lw_t5 (List.mem_of_getElem? (i := 132) (by decide +kernel))) rfl
def m_ga_trace : gp_M := (⟨"GasTurn", "trace", "(I)I"⟩, prog_1_method_45_code, 2, some (FieldType.int), { frames := 1, cells := 0, slots := 0, locals := 22 })
theorem o_ga_trace : gp_mo m_ga_trace 1 := ⟨by decide +kernel, by decide +kernel, by decide +kernel, lw_g_of (lw_t5 (List.mem_of_getElem? (i := 147) (rfl))) rfl, lw_g_of (lw_t1 (List.mem_of_getElem? (i := 1) (by decide +kernel))) rfl⟩
theorem i_ga_trace : Cond.instanceMethod m_ga_trace.1 ∈ lw_g := lw_g_of (lw_t5 (List.mem_of_getElem? (i := 145) (by decide +kernel))) rfl
theorem v_ga_trace : Cond.selects m_ga_trace.1.cls m_ga_trace.1 m_ga_trace.1 ∈ lw_g := lw_g_of (lw_t5 (List.mem_of_getElem? (i := 146) (by decide +kernel))) rfl
def m_ga_taken : gp_M := (⟨"GasTurn", "taken", "(II)I"⟩, prog_1_method_46_code, 4, some (FieldType.int), { frames := 2, cells := 0, slots := 0, locals := 43 })
theorem o_ga_taken : gp_mo m_ga_taken 2 := ⟨by decide +kernel, by decide +kernel, by decide +kernel, lw_g_of (lw_t5 (List.mem_of_getElem? (i := 151) (rfl))) rfl, lw_g_of (lw_t1 (List.mem_of_getElem? (i := 1) (by decide +kernel))) rfl⟩
theorem i_ga_taken : Cond.instanceMethod m_ga_taken.1 ∈ lw_g := lw_g_of (lw_t5 (List.mem_of_getElem? (i := 149) (by decide +kernel))) rfl
theorem v_ga_taken : Cond.selects m_ga_taken.1.cls m_ga_taken.1 m_ga_taken.1 ∈ lw_g := lw_g_of (lw_t5 (List.mem_of_getElem? (i := 150) (by decide +kernel))) rfl
def m_ga_isOfKind : gp_M := (⟨"GasTurn", "isOfKind", "(LGasTurn$Ring;I)Z"⟩, prog_1_method_64_code, 2, some (FieldType.boolean), { frames := 0, cells := 0, slots := 0, locals := 0 })
theorem o_ga_isOfKind : gp_mo m_ga_isOfKind 2 := ⟨by decide +kernel, by decide +kernel, by decide +kernel, lw_g_of (lw_t5 (List.mem_of_getElem? (i := 154) (rfl))) rfl, lw_g_of (lw_t1 (List.mem_of_getElem? (i := 1) (by decide +kernel))) rfl⟩
theorem i_ga_isOfKind : Cond.static m_ga_isOfKind.1 ∈ lw_g := lw_g_of (lw_t5 (List.mem_of_getElem? (i := 153) (by decide +kernel))) rfl
def m_fi_kindNumber : gp_M := (⟨"GasTurn$Fire", "kindNumber", "()I"⟩, prog_3_method_2_code, 1, some (FieldType.int), { frames := 0, cells := 0, slots := 0, locals := 0 })
theorem o_fi_kindNumber : gp_mo m_fi_kindNumber 0 := ⟨by decide +kernel, by decide +kernel, by decide +kernel, lw_g_of (lw_t5 (List.mem_of_getElem? (i := 161) (rfl))) rfl, lw_g_of (lw_t1 (List.mem_of_getElem? (i := 14) (by decide +kernel))) rfl⟩
theorem i_fi_kindNumber : Cond.instanceMethod m_fi_kindNumber.1 ∈ lw_g := lw_g_of (lw_t5 (List.mem_of_getElem? (i := 160) (by decide +kernel))) rfl
def m_gr_kindNumber : gp_M := (⟨"GasTurn$Grill", "kindNumber", "()I"⟩, prog_4_method_2_code, 1, some (FieldType.int), { frames := 0, cells := 0, slots := 0, locals := 0 })
theorem o_gr_kindNumber : gp_mo m_gr_kindNumber 0 := ⟨by decide +kernel, by decide +kernel, by decide +kernel, lw_g_of (lw_t5 (List.mem_of_getElem? (i := 164) (rfl))) rfl, lw_g_of (lw_t1 (List.mem_of_getElem? (i := 13) (by decide +kernel))) rfl⟩
theorem i_gr_kindNumber : Cond.instanceMethod m_gr_kindNumber.1 ∈ lw_g := lw_g_of (lw_t5 (List.mem_of_getElem? (i := 163) (by decide +kernel))) rfl
def m_ov_kindNumber : gp_M := (⟨"GasTurn$Oven", "kindNumber", "()I"⟩, prog_8_method_2_code, 1, some (FieldType.int), { frames := 0, cells := 0, slots := 0, locals := 0 })
theorem o_ov_kindNumber : gp_mo m_ov_kindNumber 0 := ⟨by decide +kernel, by decide +kernel, by decide +kernel, lw_g_of (lw_t5 (List.mem_of_getElem? (i := 167) (rfl))) rfl, lw_g_of (lw_t1 (List.mem_of_getElem? (i := 12) (by decide +kernel))) rfl⟩
theorem i_ov_kindNumber : Cond.instanceMethod m_ov_kindNumber.1 ∈ lw_g := lw_g_of (lw_t5 (List.mem_of_getElem? (i := 166) (by decide +kernel))) rfl
def m_ri_kindNumber : gp_M := (⟨"GasTurn$Ring", "kindNumber", "()I"⟩, prog_9_method_2_code, 1, some (FieldType.int), { frames := 0, cells := 0, slots := 0, locals := 0 })
theorem o_ri_kindNumber : gp_mo m_ri_kindNumber 0 := ⟨by decide +kernel, by decide +kernel, by decide +kernel, lw_g_of (lw_t5 (List.mem_of_getElem? (i := 168) (rfl))) rfl, lw_g_of (lw_t1 (List.mem_of_getElem? (i := 11) (by decide +kernel))) rfl⟩
theorem i_ri_kindNumber : Cond.instanceMethod m_ri_kindNumber.1 ∈ lw_g := lw_g_of (lw_t5 (List.mem_of_getElem? (i := 156) (by decide +kernel))) rfl
theorem v_ri_kindNumber : Cond.selects m_ri_kindNumber.1.cls m_ri_kindNumber.1 m_ri_kindNumber.1 ∈ lw_g := lw_g_of (lw_t5 (List.mem_of_getElem? (i := 157) (by decide +kernel))) rfl
def m_ga_count : gp_M := (⟨"GasTurn", "count", "(I)I"⟩, prog_1_method_47_code, 2, some (FieldType.int), { frames := 1, cells := 0, slots := 0, locals := 22 })
theorem o_ga_count : gp_mo m_ga_count 1 := ⟨by decide +kernel, by decide +kernel, by decide +kernel, lw_g_of (lw_t5 (List.mem_of_getElem? (i := 172) (rfl))) rfl, lw_g_of (lw_t1 (List.mem_of_getElem? (i := 1) (by decide +kernel))) rfl⟩
theorem i_ga_count : Cond.instanceMethod m_ga_count.1 ∈ lw_g := lw_g_of (lw_t5 (List.mem_of_getElem? (i := 170) (by decide +kernel))) rfl
theorem v_ga_count : Cond.selects m_ga_count.1.cls m_ga_count.1 m_ga_count.1 ∈ lw_g := lw_g_of (lw_t5 (List.mem_of_getElem? (i := 171) (by decide +kernel))) rfl
def m_ne_shutValves : gp_M := (⟨"GasTurn$Net", "shutValves", "()I"⟩, prog_7_method_23_code, 3, some (FieldType.int), { frames := 0, cells := 0, slots := 0, locals := 0 })
theorem o_ne_shutValves : gp_mo m_ne_shutValves 0 := ⟨by decide +kernel, by decide +kernel, by decide +kernel, lw_g_of (lw_t5 (List.mem_of_getElem? (i := 176) (rfl))) rfl, lw_g_of (lw_t1 (List.mem_of_getElem? (i := 2) (by decide +kernel))) rfl⟩
theorem i_ne_shutValves : Cond.instanceMethod m_ne_shutValves.1 ∈ lw_g := lw_g_of (lw_t5 (List.mem_of_getElem? (i := 174) (by decide +kernel))) rfl
theorem v_ne_shutValves : Cond.selects m_ne_shutValves.1.cls m_ne_shutValves.1 m_ne_shutValves.1 ∈ lw_g := lw_g_of (lw_t5 (List.mem_of_getElem? (i := 175) (by decide +kernel))) rfl
def m_ga_shutHomes : gp_M := (⟨"GasTurn", "shutHomes", "()I"⟩, prog_1_method_81_code, 3, some (FieldType.int), { frames := 0, cells := 0, slots := 0, locals := 0 })
theorem o_ga_shutHomes : gp_mo m_ga_shutHomes 0 := ⟨by decide +kernel, by decide +kernel, by decide +kernel, lw_g_of (lw_t5 (List.mem_of_getElem? (i := 180) (rfl))) rfl, lw_g_of (lw_t1 (List.mem_of_getElem? (i := 1) (by decide +kernel))) rfl⟩
theorem i_ga_shutHomes : Cond.instanceMethod m_ga_shutHomes.1 ∈ lw_g := lw_g_of (lw_t5 (List.mem_of_getElem? (i := 179) (by decide +kernel))) rfl
theorem v_ga_shutHomes : Cond.selects m_ga_shutHomes.1.cls m_ga_shutHomes.1 m_ga_shutHomes.1 ∈ lw_g := lw_g_of (List.mem_append_left _ (List.mem_map.mpr ⟨(m_ga_shutHomes.1, 20), by decide +kernel, rfl⟩)) rfl
def m_ga_sheet : gp_M := (⟨"GasTurn", "sheet", "(III)I"⟩, prog_1_method_48_code, 4, some (FieldType.int), { frames := 2, cells := 0, slots := 0, locals := 43 })
theorem o_ga_sheet : gp_mo m_ga_sheet 3 := ⟨by decide +kernel, by decide +kernel, by decide +kernel, lw_g_of (lw_t5 (List.mem_of_getElem? (i := 184) (rfl))) rfl, lw_g_of (lw_t1 (List.mem_of_getElem? (i := 1) (by decide +kernel))) rfl⟩
theorem i_ga_sheet : Cond.instanceMethod m_ga_sheet.1 ∈ lw_g := lw_g_of (lw_t5 (List.mem_of_getElem? (i := 182) (by decide +kernel))) rfl
theorem v_ga_sheet : Cond.selects m_ga_sheet.1.cls m_ga_sheet.1 m_ga_sheet.1 ∈ lw_g := lw_g_of (lw_t5 (List.mem_of_getElem? (i := 183) (by decide +kernel))) rfl
def m_ga_cell : gp_M := (⟨"GasTurn", "cell", "(III)I"⟩, prog_1_method_49_code, 4, some (FieldType.int), { frames := 2, cells := 0, slots := 0, locals := 44 })
theorem o_ga_cell : gp_mo m_ga_cell 3 := ⟨by decide +kernel, by decide +kernel, by decide +kernel, lw_g_of (lw_t5 (List.mem_of_getElem? (i := 188) (rfl))) rfl, lw_g_of (lw_t1 (List.mem_of_getElem? (i := 1) (by decide +kernel))) rfl⟩
theorem i_ga_cell : Cond.instanceMethod m_ga_cell.1 ∈ lw_g := lw_g_of (lw_t5 (List.mem_of_getElem? (i := 186) (by decide +kernel))) rfl
theorem v_ga_cell : Cond.selects m_ga_cell.1.cls m_ga_cell.1 m_ga_cell.1 ∈ lw_g := lw_g_of (lw_t5 (List.mem_of_getElem? (i := 187) (by decide +kernel))) rfl
def m_sh_cutToSort : gp_M := (⟨"GasTurn$Sheets", "cutToSort", "(II)I"⟩, prog_11_method_6_code, 3, some (FieldType.int), { frames := 0, cells := 0, slots := 0, locals := 0 })
theorem o_sh_cutToSort : gp_mo m_sh_cutToSort 2 := ⟨by decide +kernel, by decide +kernel, by decide +kernel, lw_g_of (lw_t5 (List.mem_of_getElem? (i := 192) (rfl))) rfl, lw_g_of (lw_t1 (List.mem_of_getElem? (i := 7) (by decide +kernel))) rfl⟩
theorem i_sh_cutToSort : Cond.instanceMethod m_sh_cutToSort.1 ∈ lw_g := lw_g_of (lw_t5 (List.mem_of_getElem? (i := 190) (by decide +kernel))) rfl
theorem v_sh_cutToSort : Cond.selects m_sh_cutToSort.1.cls m_sh_cutToSort.1 m_sh_cutToSort.1 ∈ lw_g := lw_g_of (lw_t5 (List.mem_of_getElem? (i := 191) (by decide +kernel))) rfl
def m_ga_copy : gp_M := (⟨"GasTurn", "copy", "(IIIII)I"⟩, prog_1_method_50_code, 6, some (FieldType.int), { frames := 2, cells := 0, slots := 0, locals := 60 })
theorem o_ga_copy : gp_mo m_ga_copy 5 := ⟨by decide +kernel, by decide +kernel, by decide +kernel, lw_g_of (lw_t5 (List.mem_of_getElem? (i := 196) (rfl))) rfl, lw_g_of (lw_t1 (List.mem_of_getElem? (i := 1) (by decide +kernel))) rfl⟩
theorem i_ga_copy : Cond.instanceMethod m_ga_copy.1 ∈ lw_g := lw_g_of (lw_t5 (List.mem_of_getElem? (i := 194) (by decide +kernel))) rfl
theorem v_ga_copy : Cond.selects m_ga_copy.1.cls m_ga_copy.1 m_ga_copy.1 ∈ lw_g := lw_g_of (lw_t5 (List.mem_of_getElem? (i := 195) (by decide +kernel))) rfl
def m_sh_hasRun : gp_M := (⟨"GasTurn$Sheets", "hasRun", "(III)Z"⟩, prog_11_method_5_code, 4, some (FieldType.boolean), { frames := 0, cells := 0, slots := 0, locals := 0 })
theorem o_sh_hasRun : gp_mo m_sh_hasRun 3 := ⟨by decide +kernel, by decide +kernel, by decide +kernel, lw_g_of (lw_t5 (List.mem_of_getElem? (i := 200) (rfl))) rfl, lw_g_of (lw_t1 (List.mem_of_getElem? (i := 7) (by decide +kernel))) rfl⟩
theorem i_sh_hasRun : Cond.instanceMethod m_sh_hasRun.1 ∈ lw_g := lw_g_of (lw_t5 (List.mem_of_getElem? (i := 198) (by decide +kernel))) rfl
theorem v_sh_hasRun : Cond.selects m_sh_hasRun.1.cls m_sh_hasRun.1 m_sh_hasRun.1 ∈ lw_g := lw_g_of (lw_t5 (List.mem_of_getElem? (i := 199) (by decide +kernel))) rfl
def m_mo_init : gp_M := (⟨"GasTurnModel", "<init>", "()V"⟩, prog_14_method_1_code, 1, none, { frames := 1, cells := 58, slots := 3562, locals := 20 })
theorem o_mo_init : gp_mo m_mo_init 0 := ⟨by decide +kernel, by decide +kernel, by decide +kernel, lw_g_of (lw_t5 (List.mem_of_getElem? (i := 208) (rfl))) rfl, lw_g_of (lw_t1 (List.mem_of_getElem? (i := 8) (by decide +kernel))) rfl⟩
theorem i_mo_init : Cond.instanceMethod m_mo_init.1 ∈ lw_g := lw_g_of (lw_t5 (List.mem_of_getElem? (i := 207) (by decide +kernel))) rfl
def m_mo_knot : gp_M := (⟨"GasTurnModel", "knot", "()I"⟩, prog_14_method_9_code, 1, some (FieldType.int), { frames := 0, cells := 0, slots := 0, locals := 0 })
theorem o_mo_knot : gp_mo m_mo_knot 0 := ⟨by decide +kernel, by decide +kernel, by decide +kernel, lw_g_of (lw_t6 (List.mem_of_getElem? (i := 212) (rfl))) rfl, lw_g_of (lw_t1 (List.mem_of_getElem? (i := 8) (by decide +kernel))) rfl⟩
theorem i_mo_knot : Cond.instanceMethod m_mo_knot.1 ∈ lw_g := lw_g_of (lw_t6 (List.mem_of_getElem? (i := 210) (by decide +kernel))) rfl
theorem v_mo_knot : Cond.selects m_mo_knot.1.cls m_mo_knot.1 m_mo_knot.1 ∈ lw_g := lw_g_of (lw_t6 (List.mem_of_getElem? (i := 211) (by decide +kernel))) rfl
def m_mo_pipe : gp_M := (⟨"GasTurnModel", "pipe", "(III)I"⟩, prog_14_method_10_code, 4, some (FieldType.int), { frames := 2, cells := 0, slots := 0, locals := 43 })
theorem o_mo_pipe : gp_mo m_mo_pipe 3 := ⟨by decide +kernel, by decide +kernel, by decide +kernel, lw_g_of (lw_t6 (List.mem_of_getElem? (i := 216) (rfl))) rfl, lw_g_of (lw_t1 (List.mem_of_getElem? (i := 8) (by decide +kernel))) rfl⟩
theorem i_mo_pipe : Cond.instanceMethod m_mo_pipe.1 ∈ lw_g := lw_g_of (lw_t6 (List.mem_of_getElem? (i := 214) (by decide +kernel))) rfl
theorem v_mo_pipe : Cond.selects m_mo_pipe.1.cls m_mo_pipe.1 m_mo_pipe.1 ∈ lw_g := lw_g_of (lw_t6 (List.mem_of_getElem? (i := 215) (by decide +kernel))) rfl
def m_mo_isKnot : gp_M := (⟨"GasTurnModel", "isKnot", "(I)Z"⟩, prog_14_method_3_code, 2, some (FieldType.boolean), { frames := 1, cells := 0, slots := 0, locals := 22 })
theorem o_mo_isKnot : gp_mo m_mo_isKnot 1 := ⟨by decide +kernel, by decide +kernel, by decide +kernel, lw_g_of (lw_t6 (List.mem_of_getElem? (i := 220) (rfl))) rfl, lw_g_of (lw_t1 (List.mem_of_getElem? (i := 8) (by decide +kernel))) rfl⟩
theorem i_mo_isKnot : Cond.instanceMethod m_mo_isKnot.1 ∈ lw_g := lw_g_of (lw_t6 (List.mem_of_getElem? (i := 219) (by decide +kernel))) rfl
theorem v_mo_isKnot : Cond.selects m_mo_isKnot.1.cls m_mo_isKnot.1 m_mo_isKnot.1 ∈ lw_g := lw_g_of (List.mem_append_left _ (List.mem_map.mpr ⟨(m_mo_isKnot.1, 79), by decide +kernel, rfl⟩)) rfl
def m_mo_in : gp_M := (⟨"GasTurnModel", "in", "(III)Z"⟩, prog_14_method_2_code, 3, some (FieldType.boolean), { frames := 0, cells := 0, slots := 0, locals := 0 })
theorem o_mo_in : gp_mo m_mo_in 3 := ⟨by decide +kernel, by decide +kernel, by decide +kernel, lw_g_of (lw_t6 (List.mem_of_getElem? (i := 223) (rfl))) rfl, lw_g_of (lw_t1 (List.mem_of_getElem? (i := 8) (by decide +kernel))) rfl⟩
theorem i_mo_in : Cond.static m_mo_in.1 ∈ lw_g := lw_g_of (lw_t6 (List.mem_of_getElem? (i := 222) (by decide +kernel))) rfl
def m_mo_valve : gp_M := (⟨"GasTurnModel", "valve", "(II)I"⟩, prog_14_method_11_code, 4, some (FieldType.int), { frames := 1, cells := 0, slots := 0, locals := 22 })
theorem o_mo_valve : gp_mo m_mo_valve 2 := ⟨by decide +kernel, by decide +kernel, by decide +kernel, lw_g_of (lw_t6 (List.mem_of_getElem? (i := 227) (rfl))) rfl, lw_g_of (lw_t1 (List.mem_of_getElem? (i := 8) (by decide +kernel))) rfl⟩
theorem i_mo_valve : Cond.instanceMethod m_mo_valve.1 ∈ lw_g := lw_g_of (lw_t6 (List.mem_of_getElem? (i := 225) (by decide +kernel))) rfl
theorem v_mo_valve : Cond.selects m_mo_valve.1.cls m_mo_valve.1 m_mo_valve.1 ∈ lw_g := lw_g_of (lw_t6 (List.mem_of_getElem? (i := 226) (by decide +kernel))) rfl
def m_mo_lost : gp_M := (⟨"GasTurnModel", "lost", "(I)I"⟩, prog_14_method_12_code, 3, some (FieldType.int), { frames := 1, cells := 0, slots := 0, locals := 22 })
theorem o_mo_lost : gp_mo m_mo_lost 1 := ⟨by decide +kernel, by decide +kernel, by decide +kernel, lw_g_of (lw_t6 (List.mem_of_getElem? (i := 231) (rfl))) rfl, lw_g_of (lw_t1 (List.mem_of_getElem? (i := 8) (by decide +kernel))) rfl⟩
theorem i_mo_lost : Cond.instanceMethod m_mo_lost.1 ∈ lw_g := lw_g_of (lw_t6 (List.mem_of_getElem? (i := 229) (by decide +kernel))) rfl
theorem v_mo_lost : Cond.selects m_mo_lost.1.cls m_mo_lost.1 m_mo_lost.1 ∈ lw_g := lw_g_of (lw_t6 (List.mem_of_getElem? (i := 230) (by decide +kernel))) rfl
def m_mo_pipeOf : gp_M := (⟨"GasTurnModel", "pipeOf", "(II)I"⟩, prog_14_method_13_code, 3, some (FieldType.int), { frames := 1, cells := 0, slots := 0, locals := 22 })
theorem o_mo_pipeOf : gp_mo m_mo_pipeOf 2 := ⟨by decide +kernel, by decide +kernel, by decide +kernel, lw_g_of (lw_t6 (List.mem_of_getElem? (i := 235) (rfl))) rfl, lw_g_of (lw_t1 (List.mem_of_getElem? (i := 8) (by decide +kernel))) rfl⟩
theorem i_mo_pipeOf : Cond.instanceMethod m_mo_pipeOf.1 ∈ lw_g := lw_g_of (lw_t6 (List.mem_of_getElem? (i := 233) (by decide +kernel))) rfl
theorem v_mo_pipeOf : Cond.selects m_mo_pipeOf.1.cls m_mo_pipeOf.1 m_mo_pipeOf.1 ∈ lw_g := lw_g_of (lw_t6 (List.mem_of_getElem? (i := 234) (by decide +kernel))) rfl
def m_mo_works : gp_M := (⟨"GasTurnModel", "works", "(III)I"⟩, prog_14_method_14_code, 4, some (FieldType.int), { frames := 2, cells := 0, slots := 0, locals := 43 })
theorem o_mo_works : gp_mo m_mo_works 3 := ⟨by decide +kernel, by decide +kernel, by decide +kernel, lw_g_of (lw_t6 (List.mem_of_getElem? (i := 239) (rfl))) rfl, lw_g_of (lw_t1 (List.mem_of_getElem? (i := 8) (by decide +kernel))) rfl⟩
theorem i_mo_works : Cond.instanceMethod m_mo_works.1 ∈ lw_g := lw_g_of (lw_t6 (List.mem_of_getElem? (i := 237) (by decide +kernel))) rfl
theorem v_mo_works : Cond.selects m_mo_works.1.cls m_mo_works.1 m_mo_works.1 ∈ lw_g := lw_g_of (lw_t6 (List.mem_of_getElem? (i := 238) (by decide +kernel))) rfl
def m_mo_close : gp_M := (⟨"GasTurnModel", "close", "(I)I"⟩, prog_14_method_15_code, 2, some (FieldType.int), { frames := 1, cells := 0, slots := 0, locals := 22 })
theorem o_mo_close : gp_mo m_mo_close 1 := ⟨by decide +kernel, by decide +kernel, by decide +kernel, lw_g_of (lw_t7 (List.mem_of_getElem? (i := 3) (rfl))) rfl, lw_g_of (lw_t1 (List.mem_of_getElem? (i := 8) (by decide +kernel))) rfl⟩
theorem i_mo_close : Cond.instanceMethod m_mo_close.1 ∈ lw_g := lw_g_of (lw_t7 (List.mem_of_getElem? (i := 1) (by decide +kernel))) rfl
theorem v_mo_close : Cond.selects m_mo_close.1.cls m_mo_close.1 m_mo_close.1 ∈ lw_g := lw_g_of (lw_t7 (List.mem_of_getElem? (i := 2) (by decide +kernel))) rfl
def m_mo_work : gp_M := (⟨"GasTurnModel", "work", "(II)I"⟩, prog_14_method_21_code, 4, some (FieldType.int), { frames := 3, cells := 0, slots := 0, locals := 69 })
theorem o_mo_work : gp_mo m_mo_work 2 := ⟨by decide +kernel, by decide +kernel, by decide +kernel, lw_g_of (lw_t7 (List.mem_of_getElem? (i := 7) (rfl))) rfl, lw_g_of (lw_t1 (List.mem_of_getElem? (i := 8) (by decide +kernel))) rfl⟩
theorem i_mo_work : Cond.instanceMethod m_mo_work.1 ∈ lw_g := lw_g_of (lw_t7 (List.mem_of_getElem? (i := 5) (by decide +kernel))) rfl
theorem v_mo_work : Cond.selects m_mo_work.1.cls m_mo_work.1 m_mo_work.1 ∈ lw_g := lw_g_of (lw_t7 (List.mem_of_getElem? (i := 6) (by decide +kernel))) rfl
def m_mo_areaOf : gp_M := (⟨"GasTurnModel", "areaOf", "(I)I"⟩, prog_14_method_18_code, 2, some (FieldType.int), { frames := 2, cells := 0, slots := 0, locals := 48 })
theorem o_mo_areaOf : gp_mo m_mo_areaOf 1 := ⟨by decide +kernel, by decide +kernel, by decide +kernel, lw_g_of (lw_t7 (List.mem_of_getElem? (i := 11) (rfl))) rfl, lw_g_of (lw_t1 (List.mem_of_getElem? (i := 8) (by decide +kernel))) rfl⟩
theorem i_mo_areaOf : Cond.instanceMethod m_mo_areaOf.1 ∈ lw_g := lw_g_of (lw_t7 (List.mem_of_getElem? (i := 10) (by decide +kernel))) rfl
theorem v_mo_areaOf : Cond.selects m_mo_areaOf.1.cls m_mo_areaOf.1 m_mo_areaOf.1 ∈ lw_g := lw_g_of (List.mem_append_left _ (List.mem_map.mpr ⟨(m_mo_areaOf.1, 79), by decide +kernel, rfl⟩)) rfl
def m_mo_all : gp_M := (⟨"GasTurnModel", "all", "()I"⟩, prog_14_method_17_code, 1, some (FieldType.int), { frames := 0, cells := 0, slots := 0, locals := 0 })
theorem o_mo_all : gp_mo m_mo_all 0 := ⟨by decide +kernel, by decide +kernel, by decide +kernel, lw_g_of (lw_t7 (List.mem_of_getElem? (i := 15) (rfl))) rfl, lw_g_of (lw_t1 (List.mem_of_getElem? (i := 8) (by decide +kernel))) rfl⟩
theorem i_mo_all : Cond.instanceMethod m_mo_all.1 ∈ lw_g := lw_g_of (lw_t7 (List.mem_of_getElem? (i := 14) (by decide +kernel))) rfl
theorem v_mo_all : Cond.selects m_mo_all.1.cls m_mo_all.1 m_mo_all.1 ∈ lw_g := lw_g_of (List.mem_append_left _ (List.mem_map.mpr ⟨(m_mo_all.1, 79), by decide +kernel, rfl⟩)) rfl
def m_mo_reach : gp_M := (⟨"GasTurnModel", "reach", "(IIZ)I"⟩, prog_14_method_16_code, 8, some (FieldType.int), { frames := 1, cells := 0, slots := 0, locals := 21 })
theorem o_mo_reach : gp_mo m_mo_reach 3 := ⟨by decide +kernel, by decide +kernel, by decide +kernel, lw_g_of (lw_t7 (List.mem_of_getElem? (i := 19) (rfl))) rfl, lw_g_of (lw_t1 (List.mem_of_getElem? (i := 8) (by decide +kernel))) rfl⟩
theorem i_mo_reach : Cond.instanceMethod m_mo_reach.1 ∈ lw_g := lw_g_of (lw_t7 (List.mem_of_getElem? (i := 18) (by decide +kernel))) rfl
theorem v_mo_reach : Cond.selects m_mo_reach.1.cls m_mo_reach.1 m_mo_reach.1 ∈ lw_g := lw_g_of (List.mem_append_left _ (List.mem_map.mpr ⟨(m_mo_reach.1, 79), by decide +kernel, rfl⟩)) rfl
def m_mo_has : gp_M := (⟨"GasTurnModel", "has", "(II)Z"⟩, prog_14_method_8_code, 2, some (FieldType.boolean), { frames := 0, cells := 0, slots := 0, locals := 0 })
theorem o_mo_has : gp_mo m_mo_has 2 := ⟨by decide +kernel, by decide +kernel, by decide +kernel, lw_g_of (lw_t7 (List.mem_of_getElem? (i := 22) (rfl))) rfl, lw_g_of (lw_t1 (List.mem_of_getElem? (i := 8) (by decide +kernel))) rfl⟩
theorem i_mo_has : Cond.static m_mo_has.1 ∈ lw_g := lw_g_of (lw_t7 (List.mem_of_getElem? (i := 21) (by decide +kernel))) rfl
def m_mo_makeAt : gp_M := (⟨"GasTurnModel", "makeAt", "(I)I"⟩, prog_14_method_19_code, 4, some (FieldType.int), { frames := 1, cells := 0, slots := 0, locals := 21 })
theorem o_mo_makeAt : gp_mo m_mo_makeAt 1 := ⟨by decide +kernel, by decide +kernel, by decide +kernel, lw_g_of (lw_t7 (List.mem_of_getElem? (i := 26) (rfl))) rfl, lw_g_of (lw_t1 (List.mem_of_getElem? (i := 8) (by decide +kernel))) rfl⟩
theorem i_mo_makeAt : Cond.instanceMethod m_mo_makeAt.1 ∈ lw_g := lw_g_of (lw_t7 (List.mem_of_getElem? (i := 25) (by decide +kernel))) rfl
theorem v_mo_makeAt : Cond.selects m_mo_makeAt.1.cls m_mo_makeAt.1 m_mo_makeAt.1 ∈ lw_g := lw_g_of (List.mem_append_left _ (List.mem_map.mpr ⟨(m_mo_makeAt.1, 79), by decide +kernel, rfl⟩)) rfl
def m_mo_useAt : gp_M := (⟨"GasTurnModel", "useAt", "(IZ)I"⟩, prog_14_method_20_code, 6, some (FieldType.int), { frames := 1, cells := 0, slots := 0, locals := 21 })
theorem o_mo_useAt : gp_mo m_mo_useAt 2 := ⟨by decide +kernel, by decide +kernel, by decide +kernel, lw_g_of (lw_t7 (List.mem_of_getElem? (i := 30) (rfl))) rfl, lw_g_of (lw_t1 (List.mem_of_getElem? (i := 8) (by decide +kernel))) rfl⟩
theorem i_mo_useAt : Cond.instanceMethod m_mo_useAt.1 ∈ lw_g := lw_g_of (lw_t7 (List.mem_of_getElem? (i := 29) (by decide +kernel))) rfl
theorem v_mo_useAt : Cond.selects m_mo_useAt.1.cls m_mo_useAt.1 m_mo_useAt.1 ∈ lw_g := lw_g_of (List.mem_append_left _ (List.mem_map.mpr ⟨(m_mo_useAt.1, 79), by decide +kernel, rfl⟩)) rfl
def m_mo_terminal : gp_M := (⟨"GasTurnModel", "terminal", "(I)I"⟩, prog_14_method_22_code, 3, some (FieldType.int), { frames := 1, cells := 0, slots := 0, locals := 22 })
theorem o_mo_terminal : gp_mo m_mo_terminal 1 := ⟨by decide +kernel, by decide +kernel, by decide +kernel, lw_g_of (lw_t7 (List.mem_of_getElem? (i := 34) (rfl))) rfl, lw_g_of (lw_t1 (List.mem_of_getElem? (i := 8) (by decide +kernel))) rfl⟩
theorem i_mo_terminal : Cond.instanceMethod m_mo_terminal.1 ∈ lw_g := lw_g_of (lw_t7 (List.mem_of_getElem? (i := 32) (by decide +kernel))) rfl
theorem v_mo_terminal : Cond.selects m_mo_terminal.1.cls m_mo_terminal.1 m_mo_terminal.1 ∈ lw_g := lw_g_of (lw_t7 (List.mem_of_getElem? (i := 33) (by decide +kernel))) rfl
def m_mo_gas : gp_M := (⟨"GasTurnModel", "gas", "(I)I"⟩, prog_14_method_24_code, 2, some (FieldType.int), { frames := 4, cells := 0, slots := 0, locals := 91 })
theorem o_mo_gas : gp_mo m_mo_gas 1 := ⟨by decide +kernel, by decide +kernel, by decide +kernel, lw_g_of (lw_t7 (List.mem_of_getElem? (i := 38) (rfl))) rfl, lw_g_of (lw_t1 (List.mem_of_getElem? (i := 8) (by decide +kernel))) rfl⟩
theorem i_mo_gas : Cond.instanceMethod m_mo_gas.1 ∈ lw_g := lw_g_of (lw_t7 (List.mem_of_getElem? (i := 36) (by decide +kernel))) rfl
theorem v_mo_gas : Cond.selects m_mo_gas.1.cls m_mo_gas.1 m_mo_gas.1 ∈ lw_g := lw_g_of (lw_t7 (List.mem_of_getElem? (i := 37) (by decide +kernel))) rfl
def m_mo_gasAt : gp_M := (⟨"GasTurnModel", "gasAt", "(I)I"⟩, prog_14_method_23_code, 3, some (FieldType.int), { frames := 3, cells := 0, slots := 0, locals := 69 })
theorem o_mo_gasAt : gp_mo m_mo_gasAt 1 := ⟨by decide +kernel, by decide +kernel, by decide +kernel, lw_g_of (lw_t7 (List.mem_of_getElem? (i := 42) (rfl))) rfl, lw_g_of (lw_t1 (List.mem_of_getElem? (i := 8) (by decide +kernel))) rfl⟩
theorem i_mo_gasAt : Cond.instanceMethod m_mo_gasAt.1 ∈ lw_g := lw_g_of (lw_t7 (List.mem_of_getElem? (i := 41) (by decide +kernel))) rfl
theorem v_mo_gasAt : Cond.selects m_mo_gasAt.1.cls m_mo_gasAt.1 m_mo_gasAt.1 ∈ lw_g := lw_g_of (List.mem_append_left _ (List.mem_map.mpr ⟨(m_mo_gasAt.1, 79), by decide +kernel, rfl⟩)) rfl
def m_mo_area : gp_M := (⟨"GasTurnModel", "area", "(I)I"⟩, prog_14_method_25_code, 2, some (FieldType.int), { frames := 3, cells := 0, slots := 0, locals := 69 })
theorem o_mo_area : gp_mo m_mo_area 1 := ⟨by decide +kernel, by decide +kernel, by decide +kernel, lw_g_of (lw_t7 (List.mem_of_getElem? (i := 46) (rfl))) rfl, lw_g_of (lw_t1 (List.mem_of_getElem? (i := 8) (by decide +kernel))) rfl⟩
theorem i_mo_area : Cond.instanceMethod m_mo_area.1 ∈ lw_g := lw_g_of (lw_t7 (List.mem_of_getElem? (i := 44) (by decide +kernel))) rfl
theorem v_mo_area : Cond.selects m_mo_area.1.cls m_mo_area.1 m_mo_area.1 ∈ lw_g := lw_g_of (lw_t7 (List.mem_of_getElem? (i := 45) (by decide +kernel))) rfl
def m_mo_pressure : gp_M := (⟨"GasTurnModel", "pressure", "(I)I"⟩, prog_14_method_26_code, 8, some (FieldType.int), { frames := 4, cells := 0, slots := 0, locals := 91 })
theorem o_mo_pressure : gp_mo m_mo_pressure 1 := ⟨by decide +kernel, by decide +kernel, by decide +kernel, lw_g_of (lw_t7 (List.mem_of_getElem? (i := 50) (rfl))) rfl, lw_g_of (lw_t1 (List.mem_of_getElem? (i := 8) (by decide +kernel))) rfl⟩
theorem i_mo_pressure : Cond.instanceMethod m_mo_pressure.1 ∈ lw_g := lw_g_of (lw_t7 (List.mem_of_getElem? (i := 48) (by decide +kernel))) rfl
theorem v_mo_pressure : Cond.selects m_mo_pressure.1.cls m_mo_pressure.1 m_mo_pressure.1 ∈ lw_g := lw_g_of (lw_t7 (List.mem_of_getElem? (i := 49) (by decide +kernel))) rfl
def m_mo_step : gp_M := (⟨"GasTurnModel", "step", "(II)I"⟩, prog_14_method_27_code, 4, some (FieldType.int), { frames := 1, cells := 0, slots := 0, locals := 22 })
theorem o_mo_step : gp_mo m_mo_step 2 := ⟨by decide +kernel, by decide +kernel, by decide +kernel, lw_g_of (lw_t7 (List.mem_of_getElem? (i := 54) (rfl))) rfl, lw_g_of (lw_t1 (List.mem_of_getElem? (i := 8) (by decide +kernel))) rfl⟩
theorem i_mo_step : Cond.instanceMethod m_mo_step.1 ∈ lw_g := lw_g_of (lw_t7 (List.mem_of_getElem? (i := 52) (by decide +kernel))) rfl
theorem v_mo_step : Cond.selects m_mo_step.1.cls m_mo_step.1 m_mo_step.1 ∈ lw_g := lw_g_of (lw_t7 (List.mem_of_getElem? (i := 53) (by decide +kernel))) rfl
def m_mo_model : gp_M := (⟨"GasTurnModel", "model", "(IIIII)I"⟩, prog_14_method_28_code, 6, some (FieldType.int), { frames := 1, cells := 0, slots := 0, locals := 22 })
theorem o_mo_model : gp_mo m_mo_model 5 := ⟨by decide +kernel, by decide +kernel, by decide +kernel, lw_g_of (lw_t7 (List.mem_of_getElem? (i := 58) (rfl))) rfl, lw_g_of (lw_t1 (List.mem_of_getElem? (i := 8) (by decide +kernel))) rfl⟩
theorem i_mo_model : Cond.instanceMethod m_mo_model.1 ∈ lw_g := lw_g_of (lw_t7 (List.mem_of_getElem? (i := 56) (by decide +kernel))) rfl
theorem v_mo_model : Cond.selects m_mo_model.1.cls m_mo_model.1 m_mo_model.1 ∈ lw_g := lw_g_of (lw_t7 (List.mem_of_getElem? (i := 57) (by decide +kernel))) rfl
def m_mo_home : gp_M := (⟨"GasTurnModel", "home", "(IIII)I"⟩, prog_14_method_29_code, 5, some (FieldType.int), { frames := 2, cells := 0, slots := 0, locals := 43 })
theorem o_mo_home : gp_mo m_mo_home 4 := ⟨by decide +kernel, by decide +kernel, by decide +kernel, lw_g_of (lw_t7 (List.mem_of_getElem? (i := 62) (rfl))) rfl, lw_g_of (lw_t1 (List.mem_of_getElem? (i := 8) (by decide +kernel))) rfl⟩
theorem i_mo_home : Cond.instanceMethod m_mo_home.1 ∈ lw_g := lw_g_of (lw_t7 (List.mem_of_getElem? (i := 60) (by decide +kernel))) rfl
theorem v_mo_home : Cond.selects m_mo_home.1.cls m_mo_home.1 m_mo_home.1 ∈ lw_g := lw_g_of (lw_t7 (List.mem_of_getElem? (i := 61) (by decide +kernel))) rfl
def m_mo_isModel : gp_M := (⟨"GasTurnModel", "isModel", "(I)Z"⟩, prog_14_method_5_code, 2, some (FieldType.boolean), { frames := 1, cells := 0, slots := 0, locals := 22 })
theorem o_mo_isModel : gp_mo m_mo_isModel 1 := ⟨by decide +kernel, by decide +kernel, by decide +kernel, lw_g_of (lw_t7 (List.mem_of_getElem? (i := 66) (rfl))) rfl, lw_g_of (lw_t1 (List.mem_of_getElem? (i := 8) (by decide +kernel))) rfl⟩
theorem i_mo_isModel : Cond.instanceMethod m_mo_isModel.1 ∈ lw_g := lw_g_of (lw_t7 (List.mem_of_getElem? (i := 65) (by decide +kernel))) rfl
theorem v_mo_isModel : Cond.selects m_mo_isModel.1.cls m_mo_isModel.1 m_mo_isModel.1 ∈ lw_g := lw_g_of (List.mem_append_left _ (List.mem_map.mpr ⟨(m_mo_isModel.1, 79), by decide +kernel, rfl⟩)) rfl
def m_mo_survey : gp_M := (⟨"GasTurnModel", "survey", "(II)I"⟩, prog_14_method_30_code, 3, some (FieldType.int), { frames := 2, cells := 0, slots := 0, locals := 43 })
theorem o_mo_survey : gp_mo m_mo_survey 2 := ⟨by decide +kernel, by decide +kernel, by decide +kernel, lw_g_of (lw_t7 (List.mem_of_getElem? (i := 70) (rfl))) rfl, lw_g_of (lw_t1 (List.mem_of_getElem? (i := 8) (by decide +kernel))) rfl⟩
theorem i_mo_survey : Cond.instanceMethod m_mo_survey.1 ∈ lw_g := lw_g_of (lw_t7 (List.mem_of_getElem? (i := 68) (by decide +kernel))) rfl
theorem v_mo_survey : Cond.selects m_mo_survey.1.cls m_mo_survey.1 m_mo_survey.1 ∈ lw_g := lw_g_of (lw_t7 (List.mem_of_getElem? (i := 69) (by decide +kernel))) rfl
def m_mo_isHome : gp_M := (⟨"GasTurnModel", "isHome", "(I)Z"⟩, prog_14_method_4_code, 2, some (FieldType.boolean), { frames := 1, cells := 0, slots := 0, locals := 22 })
theorem o_mo_isHome : gp_mo m_mo_isHome 1 := ⟨by decide +kernel, by decide +kernel, by decide +kernel, lw_g_of (lw_t7 (List.mem_of_getElem? (i := 74) (rfl))) rfl, lw_g_of (lw_t1 (List.mem_of_getElem? (i := 8) (by decide +kernel))) rfl⟩
theorem i_mo_isHome : Cond.instanceMethod m_mo_isHome.1 ∈ lw_g := lw_g_of (lw_t7 (List.mem_of_getElem? (i := 73) (by decide +kernel))) rfl
theorem v_mo_isHome : Cond.selects m_mo_isHome.1.cls m_mo_isHome.1 m_mo_isHome.1 ∈ lw_g := lw_g_of (List.mem_append_left _ (List.mem_map.mpr ⟨(m_mo_isHome.1, 79), by decide +kernel, rfl⟩)) rfl
def m_mo_lay : gp_M := (⟨"GasTurnModel", "lay", "(IIII)I"⟩, prog_14_method_31_code, 5, some (FieldType.int), { frames := 3, cells := 0, slots := 0, locals := 65 })
theorem o_mo_lay : gp_mo m_mo_lay 4 := ⟨by decide +kernel, by decide +kernel, by decide +kernel, lw_g_of (lw_t7 (List.mem_of_getElem? (i := 78) (rfl))) rfl, lw_g_of (lw_t1 (List.mem_of_getElem? (i := 8) (by decide +kernel))) rfl⟩
theorem i_mo_lay : Cond.instanceMethod m_mo_lay.1 ∈ lw_g := lw_g_of (lw_t7 (List.mem_of_getElem? (i := 76) (by decide +kernel))) rfl
theorem v_mo_lay : Cond.selects m_mo_lay.1.cls m_mo_lay.1 m_mo_lay.1 ∈ lw_g := lw_g_of (lw_t7 (List.mem_of_getElem? (i := 77) (by decide +kernel))) rfl
def m_mo_isSheet : gp_M := (⟨"GasTurnModel", "isSheet", "(I)Z"⟩, prog_14_method_89_code, 1, some (FieldType.boolean), { frames := 1, cells := 0, slots := 0, locals := 22 })
theorem o_mo_isSheet : gp_mo m_mo_isSheet 1 := ⟨by decide +kernel, by decide +kernel, by decide +kernel, lw_g_of (lw_t7 (List.mem_of_getElem? (i := 81) (rfl))) rfl, lw_g_of (lw_t1 (List.mem_of_getElem? (i := 8) (by decide +kernel))) rfl⟩
theorem i_mo_isSheet : Cond.static m_mo_isSheet.1 ∈ lw_g := lw_g_of (lw_t7 (List.mem_of_getElem? (i := 80) (by decide +kernel))) rfl
def m_mo_known : gp_M := (⟨"GasTurnModel", "known", "(II)I"⟩, prog_14_method_33_code, 3, some (FieldType.int), { frames := 2, cells := 0, slots := 0, locals := 43 })
theorem o_mo_known : gp_mo m_mo_known 2 := ⟨by decide +kernel, by decide +kernel, by decide +kernel, lw_g_of (lw_t7 (List.mem_of_getElem? (i := 86) (rfl))) rfl, lw_g_of (lw_t1 (List.mem_of_getElem? (i := 8) (by decide +kernel))) rfl⟩
theorem i_mo_known : Cond.instanceMethod m_mo_known.1 ∈ lw_g := lw_g_of (lw_t7 (List.mem_of_getElem? (i := 84) (by decide +kernel))) rfl
theorem v_mo_known : Cond.selects m_mo_known.1.cls m_mo_known.1 m_mo_known.1 ∈ lw_g := lw_g_of (lw_t7 (List.mem_of_getElem? (i := 85) (by decide +kernel))) rfl
def m_mo_knownOf : gp_M := (⟨"GasTurnModel", "knownOf", "(II)I"⟩, prog_14_method_32_code, 4, some (FieldType.int), { frames := 0, cells := 0, slots := 0, locals := 0 })
theorem o_mo_knownOf : gp_mo m_mo_knownOf 2 := ⟨by decide +kernel, by decide +kernel, by decide +kernel, lw_g_of (lw_t7 (List.mem_of_getElem? (i := 90) (rfl))) rfl, lw_g_of (lw_t1 (List.mem_of_getElem? (i := 8) (by decide +kernel))) rfl⟩
theorem i_mo_knownOf : Cond.instanceMethod m_mo_knownOf.1 ∈ lw_g := lw_g_of (lw_t7 (List.mem_of_getElem? (i := 89) (by decide +kernel))) rfl
theorem v_mo_knownOf : Cond.selects m_mo_knownOf.1.cls m_mo_knownOf.1 m_mo_knownOf.1 ∈ lw_g := lw_g_of (List.mem_append_left _ (List.mem_map.mpr ⟨(m_mo_knownOf.1, 79), by decide +kernel, rfl⟩)) rfl
def m_mo_need : gp_M := (⟨"GasTurnModel", "need", "(IIII)I"⟩, prog_14_method_35_code, 6, some (FieldType.int), { frames := 2, cells := 0, slots := 0, locals := 54 })
theorem o_mo_need : gp_mo m_mo_need 4 := ⟨by decide +kernel, by decide +kernel, by decide +kernel, lw_g_of (lw_t7 (List.mem_of_getElem? (i := 94) (rfl))) rfl, lw_g_of (lw_t1 (List.mem_of_getElem? (i := 8) (by decide +kernel))) rfl⟩
theorem i_mo_need : Cond.instanceMethod m_mo_need.1 ∈ lw_g := lw_g_of (lw_t7 (List.mem_of_getElem? (i := 92) (by decide +kernel))) rfl
theorem v_mo_need : Cond.selects m_mo_need.1.cls m_mo_need.1 m_mo_need.1 ∈ lw_g := lw_g_of (lw_t7 (List.mem_of_getElem? (i := 93) (by decide +kernel))) rfl
def m_mo_isSector : gp_M := (⟨"GasTurnModel", "isSector", "(I)Z"⟩, prog_14_method_6_code, 2, some (FieldType.boolean), { frames := 1, cells := 0, slots := 0, locals := 22 })
theorem o_mo_isSector : gp_mo m_mo_isSector 1 := ⟨by decide +kernel, by decide +kernel, by decide +kernel, lw_g_of (lw_t7 (List.mem_of_getElem? (i := 98) (rfl))) rfl, lw_g_of (lw_t1 (List.mem_of_getElem? (i := 8) (by decide +kernel))) rfl⟩
theorem i_mo_isSector : Cond.instanceMethod m_mo_isSector.1 ∈ lw_g := lw_g_of (lw_t7 (List.mem_of_getElem? (i := 97) (by decide +kernel))) rfl
theorem v_mo_isSector : Cond.selects m_mo_isSector.1.cls m_mo_isSector.1 m_mo_isSector.1 ∈ lw_g := lw_g_of (List.mem_append_left _ (List.mem_map.mpr ⟨(m_mo_isSector.1, 79), by decide +kernel, rfl⟩)) rfl
def m_mo_needOf : gp_M := (⟨"GasTurnModel", "needOf", "(IIIZ)I"⟩, prog_14_method_34_code, 12, some (FieldType.int), { frames := 1, cells := 0, slots := 0, locals := 23 })
theorem o_mo_needOf : gp_mo m_mo_needOf 4 := ⟨by decide +kernel, by decide +kernel, by decide +kernel, lw_g_of (lw_t7 (List.mem_of_getElem? (i := 102) (rfl))) rfl, lw_g_of (lw_t1 (List.mem_of_getElem? (i := 8) (by decide +kernel))) rfl⟩
theorem i_mo_needOf : Cond.instanceMethod m_mo_needOf.1 ∈ lw_g := lw_g_of (lw_t7 (List.mem_of_getElem? (i := 101) (by decide +kernel))) rfl
theorem v_mo_needOf : Cond.selects m_mo_needOf.1.cls m_mo_needOf.1 m_mo_needOf.1 ∈ lw_g := lw_g_of (List.mem_append_left _ (List.mem_map.mpr ⟨(m_mo_needOf.1, 79), by decide +kernel, rfl⟩)) rfl
def m_mo_homeOf : gp_M := (⟨"GasTurnModel", "homeOf", "(II)I"⟩, prog_14_method_36_code, 3, some (FieldType.int), { frames := 2, cells := 0, slots := 0, locals := 43 })
theorem o_mo_homeOf : gp_mo m_mo_homeOf 2 := ⟨by decide +kernel, by decide +kernel, by decide +kernel, lw_g_of (lw_t7 (List.mem_of_getElem? (i := 106) (rfl))) rfl, lw_g_of (lw_t1 (List.mem_of_getElem? (i := 8) (by decide +kernel))) rfl⟩
theorem i_mo_homeOf : Cond.instanceMethod m_mo_homeOf.1 ∈ lw_g := lw_g_of (lw_t7 (List.mem_of_getElem? (i := 104) (by decide +kernel))) rfl
theorem v_mo_homeOf : Cond.selects m_mo_homeOf.1.cls m_mo_homeOf.1 m_mo_homeOf.1 ∈ lw_g := lw_g_of (lw_t7 (List.mem_of_getElem? (i := 105) (by decide +kernel))) rfl
def m_mo_stock : gp_M := (⟨"GasTurnModel", "stock", "(II)I"⟩, prog_14_method_37_code, 3, some (FieldType.int), { frames := 1, cells := 0, slots := 0, locals := 22 })
theorem o_mo_stock : gp_mo m_mo_stock 2 := ⟨by decide +kernel, by decide +kernel, by decide +kernel, lw_g_of (lw_t7 (List.mem_of_getElem? (i := 110) (rfl))) rfl, lw_g_of (lw_t1 (List.mem_of_getElem? (i := 8) (by decide +kernel))) rfl⟩
theorem i_mo_stock : Cond.instanceMethod m_mo_stock.1 ∈ lw_g := lw_g_of (lw_t7 (List.mem_of_getElem? (i := 108) (by decide +kernel))) rfl
theorem v_mo_stock : Cond.selects m_mo_stock.1.cls m_mo_stock.1 m_mo_stock.1 ∈ lw_g := lw_g_of (lw_t7 (List.mem_of_getElem? (i := 109) (by decide +kernel))) rfl
def m_mo_order : gp_M := (⟨"GasTurnModel", "order", "(III)I"⟩, prog_14_method_38_code, 4, some (FieldType.int), { frames := 1, cells := 0, slots := 0, locals := 22 })
theorem o_mo_order : gp_mo m_mo_order 3 := ⟨by decide +kernel, by decide +kernel, by decide +kernel, lw_g_of (lw_t7 (List.mem_of_getElem? (i := 114) (rfl))) rfl, lw_g_of (lw_t1 (List.mem_of_getElem? (i := 8) (by decide +kernel))) rfl⟩
theorem i_mo_order : Cond.instanceMethod m_mo_order.1 ∈ lw_g := lw_g_of (lw_t7 (List.mem_of_getElem? (i := 112) (by decide +kernel))) rfl
theorem v_mo_order : Cond.selects m_mo_order.1.cls m_mo_order.1 m_mo_order.1 ∈ lw_g := lw_g_of (lw_t7 (List.mem_of_getElem? (i := 113) (by decide +kernel))) rfl
def m_mo_sector : gp_M := (⟨"GasTurnModel", "sector", "(I)I"⟩, prog_14_method_39_code, 3, some (FieldType.int), { frames := 1, cells := 0, slots := 0, locals := 20 })
theorem o_mo_sector : gp_mo m_mo_sector 1 := ⟨by decide +kernel, by decide +kernel, by decide +kernel, lw_g_of (lw_t7 (List.mem_of_getElem? (i := 118) (rfl))) rfl, lw_g_of (lw_t1 (List.mem_of_getElem? (i := 8) (by decide +kernel))) rfl⟩
theorem i_mo_sector : Cond.instanceMethod m_mo_sector.1 ∈ lw_g := lw_g_of (lw_t7 (List.mem_of_getElem? (i := 116) (by decide +kernel))) rfl
theorem v_mo_sector : Cond.selects m_mo_sector.1.cls m_mo_sector.1 m_mo_sector.1 ∈ lw_g := lw_g_of (lw_t7 (List.mem_of_getElem? (i := 117) (by decide +kernel))) rfl
def m_mo_why : gp_M := (⟨"GasTurnModel", "why", "(I)I"⟩, prog_14_method_45_code, 2, some (FieldType.int), { frames := 4, cells := 0, slots := 0, locals := 96 })
theorem o_mo_why : gp_mo m_mo_why 1 := ⟨by decide +kernel, by decide +kernel, by decide +kernel, lw_g_of (lw_t7 (List.mem_of_getElem? (i := 122) (rfl))) rfl, lw_g_of (lw_t1 (List.mem_of_getElem? (i := 8) (by decide +kernel))) rfl⟩
theorem i_mo_why : Cond.instanceMethod m_mo_why.1 ∈ lw_g := lw_g_of (lw_t7 (List.mem_of_getElem? (i := 120) (by decide +kernel))) rfl
theorem v_mo_why : Cond.selects m_mo_why.1.cls m_mo_why.1 m_mo_why.1 ∈ lw_g := lw_g_of (lw_t7 (List.mem_of_getElem? (i := 121) (by decide +kernel))) rfl
def m_mo_whyNot : gp_M := (⟨"GasTurnModel", "whyNot", "(I)I"⟩, prog_14_method_44_code, 3, some (FieldType.int), { frames := 3, cells := 0, slots := 0, locals := 74 })
theorem o_mo_whyNot : gp_mo m_mo_whyNot 1 := ⟨by decide +kernel, by decide +kernel, by decide +kernel, lw_g_of (lw_t7 (List.mem_of_getElem? (i := 126) (rfl))) rfl, lw_g_of (lw_t1 (List.mem_of_getElem? (i := 8) (by decide +kernel))) rfl⟩
theorem i_mo_whyNot : Cond.instanceMethod m_mo_whyNot.1 ∈ lw_g := lw_g_of (lw_t7 (List.mem_of_getElem? (i := 125) (by decide +kernel))) rfl
theorem v_mo_whyNot : Cond.selects m_mo_whyNot.1.cls m_mo_whyNot.1 m_mo_whyNot.1 ∈ lw_g := lw_g_of (List.mem_append_left _ (List.mem_map.mpr ⟨(m_mo_whyNot.1, 79), by decide +kernel, rfl⟩)) rfl
def m_mo_done : gp_M := (⟨"GasTurnModel", "done", "()I"⟩, prog_14_method_40_code, 3, some (FieldType.int), { frames := 0, cells := 0, slots := 0, locals := 0 })
theorem o_mo_done : gp_mo m_mo_done 0 := ⟨by decide +kernel, by decide +kernel, by decide +kernel, lw_g_of (lw_t7 (List.mem_of_getElem? (i := 130) (rfl))) rfl, lw_g_of (lw_t1 (List.mem_of_getElem? (i := 8) (by decide +kernel))) rfl⟩
theorem i_mo_done : Cond.instanceMethod m_mo_done.1 ∈ lw_g := lw_g_of (lw_t7 (List.mem_of_getElem? (i := 129) (by decide +kernel))) rfl
theorem v_mo_done : Cond.selects m_mo_done.1.cls m_mo_done.1 m_mo_done.1 ∈ lw_g := lw_g_of (List.mem_append_left _ (List.mem_map.mpr ⟨(m_mo_done.1, 79), by decide +kernel, rfl⟩)) rfl
def m_mo_hinders : gp_M := (⟨"GasTurnModel", "hinders", "(II)I"⟩, prog_14_method_42_code, 7, some (FieldType.int), { frames := 2, cells := 0, slots := 0, locals := 48 })
theorem o_mo_hinders : gp_mo m_mo_hinders 2 := ⟨by decide +kernel, by decide +kernel, by decide +kernel, lw_g_of (lw_t7 (List.mem_of_getElem? (i := 134) (rfl))) rfl, lw_g_of (lw_t1 (List.mem_of_getElem? (i := 8) (by decide +kernel))) rfl⟩
theorem i_mo_hinders : Cond.instanceMethod m_mo_hinders.1 ∈ lw_g := lw_g_of (lw_t7 (List.mem_of_getElem? (i := 133) (by decide +kernel))) rfl
theorem v_mo_hinders : Cond.selects m_mo_hinders.1.cls m_mo_hinders.1 m_mo_hinders.1 ∈ lw_g := lw_g_of (List.mem_append_left _ (List.mem_map.mpr ⟨(m_mo_hinders.1, 79), by decide +kernel, rfl⟩)) rfl
def m_mo_isBorder : gp_M := (⟨"GasTurnModel", "isBorder", "(II)Z"⟩, prog_14_method_41_code, 3, some (FieldType.boolean), { frames := 1, cells := 0, slots := 0, locals := 21 })
theorem o_mo_isBorder : gp_mo m_mo_isBorder 2 := ⟨by decide +kernel, by decide +kernel, by decide +kernel, lw_g_of (lw_t7 (List.mem_of_getElem? (i := 138) (rfl))) rfl, lw_g_of (lw_t1 (List.mem_of_getElem? (i := 8) (by decide +kernel))) rfl⟩
theorem i_mo_isBorder : Cond.instanceMethod m_mo_isBorder.1 ∈ lw_g := lw_g_of (lw_t7 (List.mem_of_getElem? (i := 137) (by decide +kernel))) rfl
theorem v_mo_isBorder : Cond.selects m_mo_isBorder.1.cls m_mo_isBorder.1 m_mo_isBorder.1 ∈ lw_g := lw_g_of (List.mem_append_left _ (List.mem_map.mpr ⟨(m_mo_isBorder.1, 79), by decide +kernel, rfl⟩)) rfl
def m_mo_isBarred : gp_M := (⟨"GasTurnModel", "isBarred", "(I)Z"⟩, prog_14_method_43_code, 4, some (FieldType.boolean), { frames := 1, cells := 0, slots := 0, locals := 22 })
theorem o_mo_isBarred : gp_mo m_mo_isBarred 1 := ⟨by decide +kernel, by decide +kernel, by decide +kernel, lw_g_of (lw_t7 (List.mem_of_getElem? (i := 142) (rfl))) rfl, lw_g_of (lw_t1 (List.mem_of_getElem? (i := 8) (by decide +kernel))) rfl⟩
theorem i_mo_isBarred : Cond.instanceMethod m_mo_isBarred.1 ∈ lw_g := lw_g_of (lw_t7 (List.mem_of_getElem? (i := 141) (by decide +kernel))) rfl
theorem v_mo_isBarred : Cond.selects m_mo_isBarred.1.cls m_mo_isBarred.1 m_mo_isBarred.1 ∈ lw_g := lw_g_of (List.mem_append_left _ (List.mem_map.mpr ⟨(m_mo_isBarred.1, 79), by decide +kernel, rfl⟩)) rfl
def m_mo_best : gp_M := (⟨"GasTurnModel", "best", "()I"⟩, prog_14_method_49_code, 6, some (FieldType.int), { frames := 4, cells := 0, slots := 0, locals := 97 })
theorem o_mo_best : gp_mo m_mo_best 0 := ⟨by decide +kernel, by decide +kernel, by decide +kernel, lw_g_of (lw_t7 (List.mem_of_getElem? (i := 146) (rfl))) rfl, lw_g_of (lw_t1 (List.mem_of_getElem? (i := 8) (by decide +kernel))) rfl⟩
theorem i_mo_best : Cond.instanceMethod m_mo_best.1 ∈ lw_g := lw_g_of (lw_t7 (List.mem_of_getElem? (i := 144) (by decide +kernel))) rfl
theorem v_mo_best : Cond.selects m_mo_best.1.cls m_mo_best.1 m_mo_best.1 ∈ lw_g := lw_g_of (lw_t7 (List.mem_of_getElem? (i := 145) (by decide +kernel))) rfl
def m_mo_onWith : gp_M := (⟨"GasTurnModel", "onWith", "(II)I"⟩, prog_14_method_48_code, 4, some (FieldType.int), { frames := 3, cells := 0, slots := 0, locals := 74 })
theorem o_mo_onWith : gp_mo m_mo_onWith 2 := ⟨by decide +kernel, by decide +kernel, by decide +kernel, lw_g_of (lw_t7 (List.mem_of_getElem? (i := 150) (rfl))) rfl, lw_g_of (lw_t1 (List.mem_of_getElem? (i := 8) (by decide +kernel))) rfl⟩
theorem i_mo_onWith : Cond.instanceMethod m_mo_onWith.1 ∈ lw_g := lw_g_of (lw_t7 (List.mem_of_getElem? (i := 149) (by decide +kernel))) rfl
theorem v_mo_onWith : Cond.selects m_mo_onWith.1.cls m_mo_onWith.1 m_mo_onWith.1 ∈ lw_g := lw_g_of (List.mem_append_left _ (List.mem_map.mpr ⟨(m_mo_onWith.1, 79), by decide +kernel, rfl⟩)) rfl
def m_mo_knotsOf : gp_M := (⟨"GasTurnModel", "knotsOf", "(I)I"⟩, prog_14_method_47_code, 4, some (FieldType.int), { frames := 1, cells := 0, slots := 0, locals := 21 })
theorem o_mo_knotsOf : gp_mo m_mo_knotsOf 1 := ⟨by decide +kernel, by decide +kernel, by decide +kernel, lw_g_of (lw_t7 (List.mem_of_getElem? (i := 154) (rfl))) rfl, lw_g_of (lw_t1 (List.mem_of_getElem? (i := 8) (by decide +kernel))) rfl⟩
theorem i_mo_knotsOf : Cond.instanceMethod m_mo_knotsOf.1 ∈ lw_g := lw_g_of (lw_t7 (List.mem_of_getElem? (i := 153) (by decide +kernel))) rfl
theorem v_mo_knotsOf : Cond.selects m_mo_knotsOf.1.cls m_mo_knotsOf.1 m_mo_knotsOf.1 ∈ lw_g := lw_g_of (List.mem_append_left _ (List.mem_map.mpr ⟨(m_mo_knotsOf.1, 79), by decide +kernel, rfl⟩)) rfl
def m_mo_borders : gp_M := (⟨"GasTurnModel", "borders", "(I)I"⟩, prog_14_method_46_code, 4, some (FieldType.int), { frames := 2, cells := 0, slots := 0, locals := 43 })
theorem o_mo_borders : gp_mo m_mo_borders 1 := ⟨by decide +kernel, by decide +kernel, by decide +kernel, lw_g_of (lw_t7 (List.mem_of_getElem? (i := 158) (rfl))) rfl, lw_g_of (lw_t1 (List.mem_of_getElem? (i := 8) (by decide +kernel))) rfl⟩
theorem i_mo_borders : Cond.instanceMethod m_mo_borders.1 ∈ lw_g := lw_g_of (lw_t7 (List.mem_of_getElem? (i := 157) (by decide +kernel))) rfl
theorem v_mo_borders : Cond.selects m_mo_borders.1.cls m_mo_borders.1 m_mo_borders.1 ∈ lw_g := lw_g_of (List.mem_append_left _ (List.mem_map.mpr ⟨(m_mo_borders.1, 79), by decide +kernel, rfl⟩)) rfl
def m_mo_bestAt : gp_M := (⟨"GasTurnModel", "bestAt", "(I)I"⟩, prog_14_method_50_code, 2, some (FieldType.int), { frames := 1, cells := 0, slots := 0, locals := 22 })
theorem o_mo_bestAt : gp_mo m_mo_bestAt 1 := ⟨by decide +kernel, by decide +kernel, by decide +kernel, lw_g_of (lw_t7 (List.mem_of_getElem? (i := 162) (rfl))) rfl, lw_g_of (lw_t1 (List.mem_of_getElem? (i := 8) (by decide +kernel))) rfl⟩
theorem i_mo_bestAt : Cond.instanceMethod m_mo_bestAt.1 ∈ lw_g := lw_g_of (lw_t7 (List.mem_of_getElem? (i := 160) (by decide +kernel))) rfl
theorem v_mo_bestAt : Cond.selects m_mo_bestAt.1.cls m_mo_bestAt.1 m_mo_bestAt.1 ∈ lw_g := lw_g_of (lw_t7 (List.mem_of_getElem? (i := 161) (by decide +kernel))) rfl
def m_mo_plan : gp_M := (⟨"GasTurnModel", "plan", "(I)I"⟩, prog_14_method_52_code, 2, some (FieldType.int), { frames := 2, cells := 0, slots := 0, locals := 43 })
theorem o_mo_plan : gp_mo m_mo_plan 1 := ⟨by decide +kernel, by decide +kernel, by decide +kernel, lw_g_of (lw_t7 (List.mem_of_getElem? (i := 166) (rfl))) rfl, lw_g_of (lw_t1 (List.mem_of_getElem? (i := 8) (by decide +kernel))) rfl⟩
theorem i_mo_plan : Cond.instanceMethod m_mo_plan.1 ∈ lw_g := lw_g_of (lw_t7 (List.mem_of_getElem? (i := 164) (by decide +kernel))) rfl
theorem v_mo_plan : Cond.selects m_mo_plan.1.cls m_mo_plan.1 m_mo_plan.1 ∈ lw_g := lw_g_of (lw_t7 (List.mem_of_getElem? (i := 165) (by decide +kernel))) rfl
def m_mo_placeInPlan : gp_M := (⟨"GasTurnModel", "placeInPlan", "(I)I"⟩, prog_14_method_51_code, 3, some (FieldType.int), { frames := 0, cells := 0, slots := 0, locals := 0 })
theorem o_mo_placeInPlan : gp_mo m_mo_placeInPlan 1 := ⟨by decide +kernel, by decide +kernel, by decide +kernel, lw_g_of (lw_t7 (List.mem_of_getElem? (i := 170) (rfl))) rfl, lw_g_of (lw_t1 (List.mem_of_getElem? (i := 8) (by decide +kernel))) rfl⟩
theorem i_mo_placeInPlan : Cond.instanceMethod m_mo_placeInPlan.1 ∈ lw_g := lw_g_of (lw_t7 (List.mem_of_getElem? (i := 169) (by decide +kernel))) rfl
theorem v_mo_placeInPlan : Cond.selects m_mo_placeInPlan.1.cls m_mo_placeInPlan.1 m_mo_placeInPlan.1 ∈ lw_g := lw_g_of (List.mem_append_left _ (List.mem_map.mpr ⟨(m_mo_placeInPlan.1, 79), by decide +kernel, rfl⟩)) rfl
def m_mo_unplan : gp_M := (⟨"GasTurnModel", "unplan", "()I"⟩, prog_14_method_53_code, 2, some (FieldType.int), { frames := 0, cells := 0, slots := 0, locals := 0 })
theorem o_mo_unplan : gp_mo m_mo_unplan 0 := ⟨by decide +kernel, by decide +kernel, by decide +kernel, lw_g_of (lw_t7 (List.mem_of_getElem? (i := 174) (rfl))) rfl, lw_g_of (lw_t1 (List.mem_of_getElem? (i := 8) (by decide +kernel))) rfl⟩
theorem i_mo_unplan : Cond.instanceMethod m_mo_unplan.1 ∈ lw_g := lw_g_of (lw_t7 (List.mem_of_getElem? (i := 172) (by decide +kernel))) rfl
theorem v_mo_unplan : Cond.selects m_mo_unplan.1.cls m_mo_unplan.1 m_mo_unplan.1 ∈ lw_g := lw_g_of (lw_t7 (List.mem_of_getElem? (i := 173) (by decide +kernel))) rfl
def m_mo_shortOf : gp_M := (⟨"GasTurnModel", "shortOf", "(II)I"⟩, prog_14_method_54_code, 7, some (FieldType.int), { frames := 2, cells := 0, slots := 0, locals := 54 })
theorem o_mo_shortOf : gp_mo m_mo_shortOf 2 := ⟨by decide +kernel, by decide +kernel, by decide +kernel, lw_g_of (lw_t7 (List.mem_of_getElem? (i := 178) (rfl))) rfl, lw_g_of (lw_t1 (List.mem_of_getElem? (i := 8) (by decide +kernel))) rfl⟩
theorem i_mo_shortOf : Cond.instanceMethod m_mo_shortOf.1 ∈ lw_g := lw_g_of (lw_t7 (List.mem_of_getElem? (i := 176) (by decide +kernel))) rfl
theorem v_mo_shortOf : Cond.selects m_mo_shortOf.1.cls m_mo_shortOf.1 m_mo_shortOf.1 ∈ lw_g := lw_g_of (lw_t7 (List.mem_of_getElem? (i := 177) (by decide +kernel))) rfl
def m_mo_fitter : gp_M := (⟨"GasTurnModel", "fitter", "(III)I"⟩, prog_14_method_55_code, 4, some (FieldType.int), { frames := 2, cells := 0, slots := 0, locals := 43 })
theorem o_mo_fitter : gp_mo m_mo_fitter 3 := ⟨by decide +kernel, by decide +kernel, by decide +kernel, lw_g_of (lw_t7 (List.mem_of_getElem? (i := 182) (rfl))) rfl, lw_g_of (lw_t1 (List.mem_of_getElem? (i := 8) (by decide +kernel))) rfl⟩
theorem i_mo_fitter : Cond.instanceMethod m_mo_fitter.1 ∈ lw_g := lw_g_of (lw_t7 (List.mem_of_getElem? (i := 180) (by decide +kernel))) rfl
theorem v_mo_fitter : Cond.selects m_mo_fitter.1.cls m_mo_fitter.1 m_mo_fitter.1 ∈ lw_g := lw_g_of (lw_t7 (List.mem_of_getElem? (i := 181) (by decide +kernel))) rfl
def m_mo_change : gp_M := (⟨"GasTurnModel", "change", "(I)I"⟩, prog_14_method_59_code, 7, some (FieldType.int), { frames := 4, cells := 0, slots := 0, locals := 96 })
theorem o_mo_change : gp_mo m_mo_change 1 := ⟨by decide +kernel, by decide +kernel, by decide +kernel, lw_g_of (lw_t7 (List.mem_of_getElem? (i := 186) (rfl))) rfl, lw_g_of (lw_t1 (List.mem_of_getElem? (i := 8) (by decide +kernel))) rfl⟩
theorem i_mo_change : Cond.instanceMethod m_mo_change.1 ∈ lw_g := lw_g_of (lw_t7 (List.mem_of_getElem? (i := 184) (by decide +kernel))) rfl
theorem v_mo_change : Cond.selects m_mo_change.1.cls m_mo_change.1 m_mo_change.1 ∈ lw_g := lw_g_of (lw_t7 (List.mem_of_getElem? (i := 185) (by decide +kernel))) rfl
def m_mo_fits : gp_M := (⟨"GasTurnModel", "fits", "(III)I"⟩, prog_14_method_58_code, 8, some (FieldType.int), { frames := 2, cells := 0, slots := 0, locals := 44 })
theorem o_mo_fits : gp_mo m_mo_fits 3 := ⟨by decide +kernel, by decide +kernel, by decide +kernel, lw_g_of (lw_t7 (List.mem_of_getElem? (i := 190) (rfl))) rfl, lw_g_of (lw_t1 (List.mem_of_getElem? (i := 8) (by decide +kernel))) rfl⟩
theorem i_mo_fits : Cond.instanceMethod m_mo_fits.1 ∈ lw_g := lw_g_of (lw_t7 (List.mem_of_getElem? (i := 189) (by decide +kernel))) rfl
theorem v_mo_fits : Cond.selects m_mo_fits.1.cls m_mo_fits.1 m_mo_fits.1 ∈ lw_g := lw_g_of (List.mem_append_left _ (List.mem_map.mpr ⟨(m_mo_fits.1, 79), by decide +kernel, rfl⟩)) rfl
def m_mo_canFit : gp_M := (⟨"GasTurnModel", "canFit", "(II)Z"⟩, prog_14_method_57_code, 4, some (FieldType.boolean), { frames := 1, cells := 0, slots := 0, locals := 21 })
theorem o_mo_canFit : gp_mo m_mo_canFit 2 := ⟨by decide +kernel, by decide +kernel, by decide +kernel, lw_g_of (lw_t7 (List.mem_of_getElem? (i := 194) (rfl))) rfl, lw_g_of (lw_t1 (List.mem_of_getElem? (i := 8) (by decide +kernel))) rfl⟩
theorem i_mo_canFit : Cond.instanceMethod m_mo_canFit.1 ∈ lw_g := lw_g_of (lw_t7 (List.mem_of_getElem? (i := 193) (by decide +kernel))) rfl
theorem v_mo_canFit : Cond.selects m_mo_canFit.1.cls m_mo_canFit.1 m_mo_canFit.1 ∈ lw_g := lw_g_of (List.mem_append_left _ (List.mem_map.mpr ⟨(m_mo_canFit.1, 79), by decide +kernel, rfl⟩)) rfl
def m_mo_changes : gp_M := (⟨"GasTurnModel", "changes", "(III)V"⟩, prog_14_method_56_code, 4, none, { frames := 0, cells := 0, slots := 0, locals := 0 })
theorem o_mo_changes : gp_mo m_mo_changes 3 := ⟨by decide +kernel, by decide +kernel, by decide +kernel, lw_g_of (lw_t7 (List.mem_of_getElem? (i := 198) (rfl))) rfl, lw_g_of (lw_t1 (List.mem_of_getElem? (i := 8) (by decide +kernel))) rfl⟩
theorem i_mo_changes : Cond.instanceMethod m_mo_changes.1 ∈ lw_g := lw_g_of (lw_t7 (List.mem_of_getElem? (i := 197) (by decide +kernel))) rfl
theorem v_mo_changes : Cond.selects m_mo_changes.1.cls m_mo_changes.1 m_mo_changes.1 ∈ lw_g := lw_g_of (List.mem_append_left _ (List.mem_map.mpr ⟨(m_mo_changes.1, 79), by decide +kernel, rfl⟩)) rfl
def m_mo_ends : gp_M := (⟨"GasTurnModel", "ends", "()V"⟩, prog_14_method_61_code, 3, none, { frames := 3, cells := 0, slots := 0, locals := 73 })
theorem o_mo_ends : gp_mo m_mo_ends 0 := ⟨by decide +kernel, by decide +kernel, by decide +kernel, lw_g_of (lw_t7 (List.mem_of_getElem? (i := 202) (rfl))) rfl, lw_g_of (lw_t1 (List.mem_of_getElem? (i := 8) (by decide +kernel))) rfl⟩
theorem i_mo_ends : Cond.instanceMethod m_mo_ends.1 ∈ lw_g := lw_g_of (lw_t7 (List.mem_of_getElem? (i := 201) (by decide +kernel))) rfl
theorem v_mo_ends : Cond.selects m_mo_ends.1.cls m_mo_ends.1 m_mo_ends.1 ∈ lw_g := lw_g_of (List.mem_append_left _ (List.mem_map.mpr ⟨(m_mo_ends.1, 79), by decide +kernel, rfl⟩)) rfl
def m_mo_burn : gp_M := (⟨"GasTurnModel", "burn", "(I)V"⟩, prog_14_method_60_code, 8, none, { frames := 2, cells := 0, slots := 0, locals := 46 })
theorem o_mo_burn : gp_mo m_mo_burn 1 := ⟨by decide +kernel, by decide +kernel, by decide +kernel, lw_g_of (lw_t7 (List.mem_of_getElem? (i := 206) (rfl))) rfl, lw_g_of (lw_t1 (List.mem_of_getElem? (i := 8) (by decide +kernel))) rfl⟩
theorem i_mo_burn : Cond.instanceMethod m_mo_burn.1 ∈ lw_g := lw_g_of (lw_t7 (List.mem_of_getElem? (i := 205) (by decide +kernel))) rfl
theorem v_mo_burn : Cond.selects m_mo_burn.1.cls m_mo_burn.1 m_mo_burn.1 ∈ lw_g := lw_g_of (List.mem_append_left _ (List.mem_map.mpr ⟨(m_mo_burn.1, 79), by decide +kernel, rfl⟩)) rfl
def m_mo_week : gp_M := (⟨"GasTurnModel", "week", "()I"⟩, prog_14_method_62_code, 1, some (FieldType.int), { frames := 4, cells := 0, slots := 0, locals := 95 })
theorem o_mo_week : gp_mo m_mo_week 0 := ⟨by decide +kernel, by decide +kernel, by decide +kernel, lw_g_of (lw_t7 (List.mem_of_getElem? (i := 210) (rfl))) rfl, lw_g_of (lw_t1 (List.mem_of_getElem? (i := 8) (by decide +kernel))) rfl⟩
theorem i_mo_week : Cond.instanceMethod m_mo_week.1 ∈ lw_g := lw_g_of (lw_t7 (List.mem_of_getElem? (i := 208) (by decide +kernel))) rfl
theorem v_mo_week : Cond.selects m_mo_week.1.cls m_mo_week.1 m_mo_week.1 ∈ lw_g := lw_g_of (lw_t7 (List.mem_of_getElem? (i := 209) (by decide +kernel))) rfl
def m_mo_later : gp_M := (⟨"GasTurnModel", "later", "(II)I"⟩, prog_14_method_63_code, 3, some (FieldType.int), { frames := 2, cells := 0, slots := 0, locals := 44 })
theorem o_mo_later : gp_mo m_mo_later 2 := ⟨by decide +kernel, by decide +kernel, by decide +kernel, lw_g_of (lw_t7 (List.mem_of_getElem? (i := 214) (rfl))) rfl, lw_g_of (lw_t1 (List.mem_of_getElem? (i := 8) (by decide +kernel))) rfl⟩
theorem i_mo_later : Cond.instanceMethod m_mo_later.1 ∈ lw_g := lw_g_of (lw_t7 (List.mem_of_getElem? (i := 212) (by decide +kernel))) rfl
theorem v_mo_later : Cond.selects m_mo_later.1.cls m_mo_later.1 m_mo_later.1 ∈ lw_g := lw_g_of (lw_t7 (List.mem_of_getElem? (i := 213) (by decide +kernel))) rfl
def m_mo_isFitter : gp_M := (⟨"GasTurnModel", "isFitter", "(I)Z"⟩, prog_14_method_7_code, 2, some (FieldType.boolean), { frames := 1, cells := 0, slots := 0, locals := 22 })
theorem o_mo_isFitter : gp_mo m_mo_isFitter 1 := ⟨by decide +kernel, by decide +kernel, by decide +kernel, lw_g_of (lw_t7 (List.mem_of_getElem? (i := 218) (rfl))) rfl, lw_g_of (lw_t1 (List.mem_of_getElem? (i := 8) (by decide +kernel))) rfl⟩
theorem i_mo_isFitter : Cond.instanceMethod m_mo_isFitter.1 ∈ lw_g := lw_g_of (lw_t7 (List.mem_of_getElem? (i := 217) (by decide +kernel))) rfl
theorem v_mo_isFitter : Cond.selects m_mo_isFitter.1.cls m_mo_isFitter.1 m_mo_isFitter.1 ∈ lw_g := lw_g_of (List.mem_append_left _ (List.mem_map.mpr ⟨(m_mo_isFitter.1, 79), by decide +kernel, rfl⟩)) rfl
def m_mo_danger : gp_M := (⟨"GasTurnModel", "danger", "()I"⟩, prog_14_method_64_code, 4, some (FieldType.int), { frames := 4, cells := 0, slots := 0, locals := 91 })
theorem o_mo_danger : gp_mo m_mo_danger 0 := ⟨by decide +kernel, by decide +kernel, by decide +kernel, lw_g_of (lw_t7 (List.mem_of_getElem? (i := 222) (rfl))) rfl, lw_g_of (lw_t1 (List.mem_of_getElem? (i := 8) (by decide +kernel))) rfl⟩
theorem i_mo_danger : Cond.instanceMethod m_mo_danger.1 ∈ lw_g := lw_g_of (lw_t7 (List.mem_of_getElem? (i := 220) (by decide +kernel))) rfl
theorem v_mo_danger : Cond.selects m_mo_danger.1.cls m_mo_danger.1 m_mo_danger.1 ∈ lw_g := lw_g_of (lw_t7 (List.mem_of_getElem? (i := 221) (by decide +kernel))) rfl
def m_mo_smell : gp_M := (⟨"GasTurnModel", "smell", "(II)I"⟩, prog_14_method_66_code, 8, some (FieldType.int), { frames := 2, cells := 0, slots := 0, locals := 47 })
theorem o_mo_smell : gp_mo m_mo_smell 2 := ⟨by decide +kernel, by decide +kernel, by decide +kernel, lw_g_of (lw_t7 (List.mem_of_getElem? (i := 226) (rfl))) rfl, lw_g_of (lw_t1 (List.mem_of_getElem? (i := 8) (by decide +kernel))) rfl⟩
theorem i_mo_smell : Cond.instanceMethod m_mo_smell.1 ∈ lw_g := lw_g_of (lw_t7 (List.mem_of_getElem? (i := 224) (by decide +kernel))) rfl
theorem v_mo_smell : Cond.selects m_mo_smell.1.cls m_mo_smell.1 m_mo_smell.1 ∈ lw_g := lw_g_of (lw_t7 (List.mem_of_getElem? (i := 225) (by decide +kernel))) rfl
def m_mo_far : gp_M := (⟨"GasTurnModel", "far", "(II)I"⟩, prog_14_method_65_code, 7, some (FieldType.int), { frames := 1, cells := 0, slots := 0, locals := 21 })
theorem o_mo_far : gp_mo m_mo_far 2 := ⟨by decide +kernel, by decide +kernel, by decide +kernel, lw_g_of (lw_t7 (List.mem_of_getElem? (i := 230) (rfl))) rfl, lw_g_of (lw_t1 (List.mem_of_getElem? (i := 8) (by decide +kernel))) rfl⟩
theorem i_mo_far : Cond.instanceMethod m_mo_far.1 ∈ lw_g := lw_g_of (lw_t7 (List.mem_of_getElem? (i := 229) (by decide +kernel))) rfl
theorem v_mo_far : Cond.selects m_mo_far.1.cls m_mo_far.1 m_mo_far.1 ∈ lw_g := lw_g_of (List.mem_append_left _ (List.mem_map.mpr ⟨(m_mo_far.1, 79), by decide +kernel, rfl⟩)) rfl
def m_mo_smellOf : gp_M := (⟨"GasTurnModel", "smellOf", "(II)I"⟩, prog_14_method_67_code, 3, some (FieldType.int), { frames := 1, cells := 0, slots := 0, locals := 22 })
theorem o_mo_smellOf : gp_mo m_mo_smellOf 2 := ⟨by decide +kernel, by decide +kernel, by decide +kernel, lw_g_of (lw_t7 (List.mem_of_getElem? (i := 234) (rfl))) rfl, lw_g_of (lw_t1 (List.mem_of_getElem? (i := 8) (by decide +kernel))) rfl⟩
theorem i_mo_smellOf : Cond.instanceMethod m_mo_smellOf.1 ∈ lw_g := lw_g_of (lw_t7 (List.mem_of_getElem? (i := 232) (by decide +kernel))) rfl
theorem v_mo_smellOf : Cond.selects m_mo_smellOf.1.cls m_mo_smellOf.1 m_mo_smellOf.1 ∈ lw_g := lw_g_of (lw_t7 (List.mem_of_getElem? (i := 233) (by decide +kernel))) rfl
def m_mo_limit : gp_M := (⟨"GasTurnModel", "limit", "(I)I"⟩, prog_14_method_68_code, 3, some (FieldType.int), { frames := 1, cells := 0, slots := 0, locals := 22 })
theorem o_mo_limit : gp_mo m_mo_limit 1 := ⟨by decide +kernel, by decide +kernel, by decide +kernel, lw_g_of (lw_t7 (List.mem_of_getElem? (i := 238) (rfl))) rfl, lw_g_of (lw_t1 (List.mem_of_getElem? (i := 8) (by decide +kernel))) rfl⟩
theorem i_mo_limit : Cond.instanceMethod m_mo_limit.1 ∈ lw_g := lw_g_of (lw_t7 (List.mem_of_getElem? (i := 236) (by decide +kernel))) rfl
theorem v_mo_limit : Cond.selects m_mo_limit.1.cls m_mo_limit.1 m_mo_limit.1 ∈ lw_g := lw_g_of (lw_t7 (List.mem_of_getElem? (i := 237) (by decide +kernel))) rfl
def m_mo_fault : gp_M := (⟨"GasTurnModel", "fault", "(I)I"⟩, prog_14_method_69_code, 2, some (FieldType.int), { frames := 2, cells := 0, slots := 0, locals := 43 })
theorem o_mo_fault : gp_mo m_mo_fault 1 := ⟨by decide +kernel, by decide +kernel, by decide +kernel, lw_g_of (lw_t8 (List.mem_of_getElem? (i := 2) (rfl))) rfl, lw_g_of (lw_t1 (List.mem_of_getElem? (i := 8) (by decide +kernel))) rfl⟩
theorem i_mo_fault : Cond.instanceMethod m_mo_fault.1 ∈ lw_g := lw_g_of (lw_t8 (List.mem_of_getElem? (i := 0) (by decide +kernel))) rfl
theorem v_mo_fault : Cond.selects m_mo_fault.1.cls m_mo_fault.1 m_mo_fault.1 ∈ lw_g := lw_g_of (lw_t8 (List.mem_of_getElem? (i := 1) (by decide +kernel))) rfl
def m_mo_beyond : gp_M := (⟨"GasTurnModel", "beyond", "(II)I"⟩, prog_14_method_71_code, 10, some (FieldType.int), { frames := 2, cells := 0, slots := 0, locals := 43 })
theorem o_mo_beyond : gp_mo m_mo_beyond 2 := ⟨by decide +kernel, by decide +kernel, by decide +kernel, lw_g_of (lw_t8 (List.mem_of_getElem? (i := 6) (rfl))) rfl, lw_g_of (lw_t1 (List.mem_of_getElem? (i := 8) (by decide +kernel))) rfl⟩
theorem i_mo_beyond : Cond.instanceMethod m_mo_beyond.1 ∈ lw_g := lw_g_of (lw_t8 (List.mem_of_getElem? (i := 4) (by decide +kernel))) rfl
theorem v_mo_beyond : Cond.selects m_mo_beyond.1.cls m_mo_beyond.1 m_mo_beyond.1 ∈ lw_g := lw_g_of (lw_t8 (List.mem_of_getElem? (i := 5) (by decide +kernel))) rfl
def m_mo_reckons : gp_M := (⟨"GasTurnModel", "reckons", "()V"⟩, prog_14_method_70_code, 3, none, { frames := 0, cells := 0, slots := 0, locals := 0 })
theorem o_mo_reckons : gp_mo m_mo_reckons 0 := ⟨by decide +kernel, by decide +kernel, by decide +kernel, lw_g_of (lw_t8 (List.mem_of_getElem? (i := 10) (rfl))) rfl, lw_g_of (lw_t1 (List.mem_of_getElem? (i := 8) (by decide +kernel))) rfl⟩
theorem i_mo_reckons : Cond.instanceMethod m_mo_reckons.1 ∈ lw_g := lw_g_of (lw_t8 (List.mem_of_getElem? (i := 9) (by decide +kernel))) rfl
theorem v_mo_reckons : Cond.selects m_mo_reckons.1.cls m_mo_reckons.1 m_mo_reckons.1 ∈ lw_g := lw_g_of (List.mem_append_left _ (List.mem_map.mpr ⟨(m_mo_reckons.1, 79), by decide +kernel, rfl⟩)) rfl
def m_mo_feed : gp_M := (⟨"GasTurnModel", "feed", "(II)I"⟩, prog_14_method_72_code, 4, some (FieldType.int), { frames := 1, cells := 0, slots := 0, locals := 22 })
theorem o_mo_feed : gp_mo m_mo_feed 2 := ⟨by decide +kernel, by decide +kernel, by decide +kernel, lw_g_of (lw_t8 (List.mem_of_getElem? (i := 15) (rfl))) rfl, lw_g_of (lw_t1 (List.mem_of_getElem? (i := 8) (by decide +kernel))) rfl⟩
theorem i_mo_feed : Cond.instanceMethod m_mo_feed.1 ∈ lw_g := lw_g_of (lw_t8 (List.mem_of_getElem? (i := 13) (by decide +kernel))) rfl
theorem v_mo_feed : Cond.selects m_mo_feed.1.cls m_mo_feed.1 m_mo_feed.1 ∈ lw_g := lw_g_of (lw_t8 (List.mem_of_getElem? (i := 14) (by decide +kernel))) rfl
def m_mo_law : gp_M := (⟨"GasTurnModel", "law", "()I"⟩, prog_14_method_76_code, 3, some (FieldType.int), { frames := 3, cells := 0, slots := 0, locals := 67 })
theorem o_mo_law : gp_mo m_mo_law 0 := ⟨by decide +kernel, by decide +kernel, by decide +kernel, lw_g_of (lw_t8 (List.mem_of_getElem? (i := 19) (rfl))) rfl, lw_g_of (lw_t1 (List.mem_of_getElem? (i := 8) (by decide +kernel))) rfl⟩
theorem i_mo_law : Cond.instanceMethod m_mo_law.1 ∈ lw_g := lw_g_of (lw_t8 (List.mem_of_getElem? (i := 17) (by decide +kernel))) rfl
theorem v_mo_law : Cond.selects m_mo_law.1.cls m_mo_law.1 m_mo_law.1 ∈ lw_g := lw_g_of (lw_t8 (List.mem_of_getElem? (i := 18) (by decide +kernel))) rfl
def m_mo_byteAt : gp_M := (⟨"GasTurnModel", "byteAt", "(I)I"⟩, prog_14_method_73_code, 2, some (FieldType.int), { frames := 0, cells := 0, slots := 0, locals := 0 })
theorem o_mo_byteAt : gp_mo m_mo_byteAt 1 := ⟨by decide +kernel, by decide +kernel, by decide +kernel, lw_g_of (lw_t8 (List.mem_of_getElem? (i := 23) (rfl))) rfl, lw_g_of (lw_t1 (List.mem_of_getElem? (i := 8) (by decide +kernel))) rfl⟩
theorem i_mo_byteAt : Cond.instanceMethod m_mo_byteAt.1 ∈ lw_g := lw_g_of (lw_t8 (List.mem_of_getElem? (i := 22) (by decide +kernel))) rfl
theorem v_mo_byteAt : Cond.selects m_mo_byteAt.1.cls m_mo_byteAt.1 m_mo_byteAt.1 ∈ lw_g := lw_g_of (List.mem_append_left _ (List.mem_map.mpr ⟨(m_mo_byteAt.1, 79), by decide +kernel, rfl⟩)) rfl
def m_mo_reads : gp_M := (⟨"GasTurnModel", "reads", "(I)V"⟩, prog_14_method_75_code, 2, none, { frames := 2, cells := 0, slots := 0, locals := 46 })
theorem o_mo_reads : gp_mo m_mo_reads 1 := ⟨by decide +kernel, by decide +kernel, by decide +kernel, lw_g_of (lw_t8 (List.mem_of_getElem? (i := 27) (rfl))) rfl, lw_g_of (lw_t1 (List.mem_of_getElem? (i := 8) (by decide +kernel))) rfl⟩
theorem i_mo_reads : Cond.instanceMethod m_mo_reads.1 ∈ lw_g := lw_g_of (lw_t8 (List.mem_of_getElem? (i := 26) (by decide +kernel))) rfl
theorem v_mo_reads : Cond.selects m_mo_reads.1.cls m_mo_reads.1 m_mo_reads.1 ∈ lw_g := lw_g_of (List.mem_append_left _ (List.mem_map.mpr ⟨(m_mo_reads.1, 79), by decide +kernel, rfl⟩)) rfl
def m_mo_readsNumber : gp_M := (⟨"GasTurnModel", "readsNumber", "(I)V"⟩, prog_14_method_74_code, 5, none, { frames := 1, cells := 0, slots := 0, locals := 22 })
theorem o_mo_readsNumber : gp_mo m_mo_readsNumber 1 := ⟨by decide +kernel, by decide +kernel, by decide +kernel, lw_g_of (lw_t8 (List.mem_of_getElem? (i := 31) (rfl))) rfl, lw_g_of (lw_t1 (List.mem_of_getElem? (i := 8) (by decide +kernel))) rfl⟩
theorem i_mo_readsNumber : Cond.instanceMethod m_mo_readsNumber.1 ∈ lw_g := lw_g_of (lw_t8 (List.mem_of_getElem? (i := 30) (by decide +kernel))) rfl
theorem v_mo_readsNumber : Cond.selects m_mo_readsNumber.1.cls m_mo_readsNumber.1 m_mo_readsNumber.1 ∈ lw_g := lw_g_of (List.mem_append_left _ (List.mem_map.mpr ⟨(m_mo_readsNumber.1, 79), by decide +kernel, rfl⟩)) rfl
def m_mo_bill : gp_M := (⟨"GasTurnModel", "bill", "(I)I"⟩, prog_14_method_77_code, 4, some (FieldType.int), { frames := 2, cells := 0, slots := 0, locals := 43 })
theorem o_mo_bill : gp_mo m_mo_bill 1 := ⟨by decide +kernel, by decide +kernel, by decide +kernel, lw_g_of (lw_t8 (List.mem_of_getElem? (i := 35) (rfl))) rfl, lw_g_of (lw_t1 (List.mem_of_getElem? (i := 8) (by decide +kernel))) rfl⟩
theorem i_mo_bill : Cond.instanceMethod m_mo_bill.1 ∈ lw_g := lw_g_of (lw_t8 (List.mem_of_getElem? (i := 33) (by decide +kernel))) rfl
theorem v_mo_bill : Cond.selects m_mo_bill.1.cls m_mo_bill.1 m_mo_bill.1 ∈ lw_g := lw_g_of (lw_t8 (List.mem_of_getElem? (i := 34) (by decide +kernel))) rfl
def m_mo_act : gp_M := (⟨"GasTurnModel", "act", "(III)I"⟩, prog_14_method_85_code, 4, some (FieldType.int), { frames := 7, cells := 0, slots := 0, locals := 155 })
theorem o_mo_act : gp_mo m_mo_act 3 := ⟨by decide +kernel, by decide +kernel, by decide +kernel, lw_g_of (lw_t8 (List.mem_of_getElem? (i := 39) (rfl))) rfl, lw_g_of (lw_t1 (List.mem_of_getElem? (i := 8) (by decide +kernel))) rfl⟩
theorem i_mo_act : Cond.instanceMethod m_mo_act.1 ∈ lw_g := lw_g_of (lw_t8 (List.mem_of_getElem? (i := 37) (by decide +kernel))) rfl
theorem v_mo_act : Cond.selects m_mo_act.1.cls m_mo_act.1 m_mo_act.1 ∈ lw_g := lw_g_of (lw_t8 (List.mem_of_getElem? (i := 38) (by decide +kernel))) rfl
def m_mo_burns : gp_M := (⟨"GasTurnModel", "burns", "(II)I"⟩, prog_14_method_80_code, 3, some (FieldType.int), { frames := 2, cells := 0, slots := 0, locals := 43 })
theorem o_mo_burns : gp_mo m_mo_burns 2 := ⟨by decide +kernel, by decide +kernel, by decide +kernel, lw_g_of (lw_t8 (List.mem_of_getElem? (i := 43) (rfl))) rfl, lw_g_of (lw_t1 (List.mem_of_getElem? (i := 8) (by decide +kernel))) rfl⟩
theorem i_mo_burns : Cond.instanceMethod m_mo_burns.1 ∈ lw_g := lw_g_of (lw_t8 (List.mem_of_getElem? (i := 42) (by decide +kernel))) rfl
theorem v_mo_burns : Cond.selects m_mo_burns.1.cls m_mo_burns.1 m_mo_burns.1 ∈ lw_g := lw_g_of (List.mem_append_left _ (List.mem_map.mpr ⟨(m_mo_burns.1, 79), by decide +kernel, rfl⟩)) rfl
def m_mo_body : gp_M := (⟨"GasTurnModel", "body", "(I)V"⟩, prog_14_method_78_code, 2, none, { frames := 0, cells := 0, slots := 0, locals := 0 })
theorem o_mo_body : gp_mo m_mo_body 1 := ⟨by decide +kernel, by decide +kernel, by decide +kernel, lw_g_of (lw_t8 (List.mem_of_getElem? (i := 47) (rfl))) rfl, lw_g_of (lw_t1 (List.mem_of_getElem? (i := 8) (by decide +kernel))) rfl⟩
theorem i_mo_body : Cond.instanceMethod m_mo_body.1 ∈ lw_g := lw_g_of (lw_t8 (List.mem_of_getElem? (i := 46) (by decide +kernel))) rfl
theorem v_mo_body : Cond.selects m_mo_body.1.cls m_mo_body.1 m_mo_body.1 ∈ lw_g := lw_g_of (List.mem_append_left _ (List.mem_map.mpr ⟨(m_mo_body.1, 79), by decide +kernel, rfl⟩)) rfl
def m_mo_burnsRing : gp_M := (⟨"GasTurnModel", "burnsRing", "(II)I"⟩, prog_14_method_79_code, 3, some (FieldType.int), { frames := 1, cells := 0, slots := 0, locals := 21 })
theorem o_mo_burnsRing : gp_mo m_mo_burnsRing 2 := ⟨by decide +kernel, by decide +kernel, by decide +kernel, lw_g_of (lw_t8 (List.mem_of_getElem? (i := 51) (rfl))) rfl, lw_g_of (lw_t1 (List.mem_of_getElem? (i := 8) (by decide +kernel))) rfl⟩
theorem i_mo_burnsRing : Cond.instanceMethod m_mo_burnsRing.1 ∈ lw_g := lw_g_of (lw_t8 (List.mem_of_getElem? (i := 50) (by decide +kernel))) rfl
theorem v_mo_burnsRing : Cond.selects m_mo_burnsRing.1.cls m_mo_burnsRing.1 m_mo_burnsRing.1 ∈ lw_g := lw_g_of (List.mem_append_left _ (List.mem_map.mpr ⟨(m_mo_burnsRing.1, 79), by decide +kernel, rfl⟩)) rfl
def m_mo_warms : gp_M := (⟨"GasTurnModel", "warms", "(II)I"⟩, prog_14_method_82_code, 4, some (FieldType.int), { frames := 4, cells := 0, slots := 0, locals := 87 })
theorem o_mo_warms : gp_mo m_mo_warms 2 := ⟨by decide +kernel, by decide +kernel, by decide +kernel, lw_g_of (lw_t8 (List.mem_of_getElem? (i := 55) (rfl))) rfl, lw_g_of (lw_t1 (List.mem_of_getElem? (i := 8) (by decide +kernel))) rfl⟩
theorem i_mo_warms : Cond.instanceMethod m_mo_warms.1 ∈ lw_g := lw_g_of (lw_t8 (List.mem_of_getElem? (i := 54) (by decide +kernel))) rfl
theorem v_mo_warms : Cond.selects m_mo_warms.1.cls m_mo_warms.1 m_mo_warms.1 ∈ lw_g := lw_g_of (List.mem_append_left _ (List.mem_map.mpr ⟨(m_mo_warms.1, 79), by decide +kernel, rfl⟩)) rfl
def m_mo_warmsRing : gp_M := (⟨"GasTurnModel", "warmsRing", "(II)I"⟩, prog_14_method_81_code, 3, some (FieldType.int), { frames := 3, cells := 0, slots := 0, locals := 65 })
theorem o_mo_warmsRing : gp_mo m_mo_warmsRing 2 := ⟨by decide +kernel, by decide +kernel, by decide +kernel, lw_g_of (lw_t8 (List.mem_of_getElem? (i := 59) (rfl))) rfl, lw_g_of (lw_t1 (List.mem_of_getElem? (i := 8) (by decide +kernel))) rfl⟩
theorem i_mo_warmsRing : Cond.instanceMethod m_mo_warmsRing.1 ∈ lw_g := lw_g_of (lw_t8 (List.mem_of_getElem? (i := 58) (by decide +kernel))) rfl
theorem v_mo_warmsRing : Cond.selects m_mo_warmsRing.1.cls m_mo_warmsRing.1 m_mo_warmsRing.1 ∈ lw_g := lw_g_of (List.mem_append_left _ (List.mem_map.mpr ⟨(m_mo_warmsRing.1, 79), by decide +kernel, rfl⟩)) rfl
def m_mo_fitsBody : gp_M := (⟨"GasTurnModel", "fitsBody", "(II)I"⟩, prog_14_method_84_code, 3, some (FieldType.int), { frames := 6, cells := 0, slots := 0, locals := 133 })
theorem o_mo_fitsBody : gp_mo m_mo_fitsBody 2 := ⟨by decide +kernel, by decide +kernel, by decide +kernel, lw_g_of (lw_t8 (List.mem_of_getElem? (i := 63) (rfl))) rfl, lw_g_of (lw_t1 (List.mem_of_getElem? (i := 8) (by decide +kernel))) rfl⟩
theorem i_mo_fitsBody : Cond.instanceMethod m_mo_fitsBody.1 ∈ lw_g := lw_g_of (lw_t8 (List.mem_of_getElem? (i := 62) (by decide +kernel))) rfl
theorem v_mo_fitsBody : Cond.selects m_mo_fitsBody.1.cls m_mo_fitsBody.1 m_mo_fitsBody.1 ∈ lw_g := lw_g_of (List.mem_append_left _ (List.mem_map.mpr ⟨(m_mo_fitsBody.1, 79), by decide +kernel, rfl⟩)) rfl
def m_mo_fitsRing : gp_M := (⟨"GasTurnModel", "fitsRing", "(II)I"⟩, prog_14_method_83_code, 4, some (FieldType.int), { frames := 5, cells := 0, slots := 0, locals := 110 })
theorem o_mo_fitsRing : gp_mo m_mo_fitsRing 2 := ⟨by decide +kernel, by decide +kernel, by decide +kernel, lw_g_of (lw_t8 (List.mem_of_getElem? (i := 67) (rfl))) rfl, lw_g_of (lw_t1 (List.mem_of_getElem? (i := 8) (by decide +kernel))) rfl⟩
theorem i_mo_fitsRing : Cond.instanceMethod m_mo_fitsRing.1 ∈ lw_g := lw_g_of (lw_t8 (List.mem_of_getElem? (i := 66) (by decide +kernel))) rfl
theorem v_mo_fitsRing : Cond.selects m_mo_fitsRing.1.cls m_mo_fitsRing.1 m_mo_fitsRing.1 ∈ lw_g := lw_g_of (List.mem_append_left _ (List.mem_map.mpr ⟨(m_mo_fitsRing.1, 79), by decide +kernel, rfl⟩)) rfl
def m_mo_trace : gp_M := (⟨"GasTurnModel", "trace", "(I)I"⟩, prog_14_method_86_code, 2, some (FieldType.int), { frames := 1, cells := 0, slots := 0, locals := 22 })
theorem o_mo_trace : gp_mo m_mo_trace 1 := ⟨by decide +kernel, by decide +kernel, by decide +kernel, lw_g_of (lw_t8 (List.mem_of_getElem? (i := 71) (rfl))) rfl, lw_g_of (lw_t1 (List.mem_of_getElem? (i := 8) (by decide +kernel))) rfl⟩
theorem i_mo_trace : Cond.instanceMethod m_mo_trace.1 ∈ lw_g := lw_g_of (lw_t8 (List.mem_of_getElem? (i := 69) (by decide +kernel))) rfl
theorem v_mo_trace : Cond.selects m_mo_trace.1.cls m_mo_trace.1 m_mo_trace.1 ∈ lw_g := lw_g_of (lw_t8 (List.mem_of_getElem? (i := 70) (by decide +kernel))) rfl
def m_mo_taken : gp_M := (⟨"GasTurnModel", "taken", "(II)I"⟩, prog_14_method_87_code, 4, some (FieldType.int), { frames := 2, cells := 0, slots := 0, locals := 43 })
theorem o_mo_taken : gp_mo m_mo_taken 2 := ⟨by decide +kernel, by decide +kernel, by decide +kernel, lw_g_of (lw_t8 (List.mem_of_getElem? (i := 75) (rfl))) rfl, lw_g_of (lw_t1 (List.mem_of_getElem? (i := 8) (by decide +kernel))) rfl⟩
theorem i_mo_taken : Cond.instanceMethod m_mo_taken.1 ∈ lw_g := lw_g_of (lw_t8 (List.mem_of_getElem? (i := 73) (by decide +kernel))) rfl
theorem v_mo_taken : Cond.selects m_mo_taken.1.cls m_mo_taken.1 m_mo_taken.1 ∈ lw_g := lw_g_of (lw_t8 (List.mem_of_getElem? (i := 74) (by decide +kernel))) rfl
def m_mo_count : gp_M := (⟨"GasTurnModel", "count", "(I)I"⟩, prog_14_method_88_code, 4, some (FieldType.int), { frames := 0, cells := 0, slots := 0, locals := 0 })
theorem o_mo_count : gp_mo m_mo_count 1 := ⟨by decide +kernel, by decide +kernel, by decide +kernel, lw_g_of (lw_t8 (List.mem_of_getElem? (i := 79) (rfl))) rfl, lw_g_of (lw_t1 (List.mem_of_getElem? (i := 8) (by decide +kernel))) rfl⟩
theorem i_mo_count : Cond.instanceMethod m_mo_count.1 ∈ lw_g := lw_g_of (lw_t8 (List.mem_of_getElem? (i := 77) (by decide +kernel))) rfl
theorem v_mo_count : Cond.selects m_mo_count.1.cls m_mo_count.1 m_mo_count.1 ∈ lw_g := lw_g_of (lw_t8 (List.mem_of_getElem? (i := 78) (by decide +kernel))) rfl
def m_mo_sheet : gp_M := (⟨"GasTurnModel", "sheet", "(III)I"⟩, prog_14_method_90_code, 5, some (FieldType.int), { frames := 2, cells := 0, slots := 0, locals := 42 })
theorem o_mo_sheet : gp_mo m_mo_sheet 3 := ⟨by decide +kernel, by decide +kernel, by decide +kernel, lw_g_of (lw_t8 (List.mem_of_getElem? (i := 83) (rfl))) rfl, lw_g_of (lw_t1 (List.mem_of_getElem? (i := 8) (by decide +kernel))) rfl⟩
theorem i_mo_sheet : Cond.instanceMethod m_mo_sheet.1 ∈ lw_g := lw_g_of (lw_t8 (List.mem_of_getElem? (i := 81) (by decide +kernel))) rfl
theorem v_mo_sheet : Cond.selects m_mo_sheet.1.cls m_mo_sheet.1 m_mo_sheet.1 ∈ lw_g := lw_g_of (lw_t8 (List.mem_of_getElem? (i := 82) (by decide +kernel))) rfl
def m_mo_cell : gp_M := (⟨"GasTurnModel", "cell", "(III)I"⟩, prog_14_method_91_code, 4, some (FieldType.int), { frames := 2, cells := 0, slots := 0, locals := 42 })
theorem o_mo_cell : gp_mo m_mo_cell 3 := ⟨by decide +kernel, by decide +kernel, by decide +kernel, lw_g_of (lw_t8 (List.mem_of_getElem? (i := 87) (rfl))) rfl, lw_g_of (lw_t1 (List.mem_of_getElem? (i := 8) (by decide +kernel))) rfl⟩
theorem i_mo_cell : Cond.instanceMethod m_mo_cell.1 ∈ lw_g := lw_g_of (lw_t8 (List.mem_of_getElem? (i := 85) (by decide +kernel))) rfl
theorem v_mo_cell : Cond.selects m_mo_cell.1.cls m_mo_cell.1 m_mo_cell.1 ∈ lw_g := lw_g_of (lw_t8 (List.mem_of_getElem? (i := 86) (by decide +kernel))) rfl
def m_mo_copy : gp_M := (⟨"GasTurnModel", "copy", "(IIIII)I"⟩, prog_14_method_92_code, 7, some (FieldType.int), { frames := 2, cells := 0, slots := 0, locals := 42 })
theorem o_mo_copy : gp_mo m_mo_copy 5 := ⟨by decide +kernel, by decide +kernel, by decide +kernel, lw_g_of (lw_t8 (List.mem_of_getElem? (i := 91) (rfl))) rfl, lw_g_of (lw_t1 (List.mem_of_getElem? (i := 8) (by decide +kernel))) rfl⟩
theorem i_mo_copy : Cond.instanceMethod m_mo_copy.1 ∈ lw_g := lw_g_of (lw_t8 (List.mem_of_getElem? (i := 89) (by decide +kernel))) rfl
theorem v_mo_copy : Cond.selects m_mo_copy.1.cls m_mo_copy.1 m_mo_copy.1 ∈ lw_g := lw_g_of (lw_t8 (List.mem_of_getElem? (i := 90) (by decide +kernel))) rfl
theorem l_lw_9 : Cond.methodLink "GasTurnLaw" 9 m_ga_init.1 ∈ lw_g := lw_g_of (lw_t1 (List.mem_of_getElem? (i := 24) (by decide +kernel))) rfl
theorem l_ga_1 : Cond.methodLink "GasTurn" 1 Lib.objectInit ∈ lw_g := lw_g_of (lw_t1 (List.mem_of_getElem? (i := 27) (by decide +kernel))) rfl
theorem l_ne_3 : Cond.methodLink "GasTurn$Net" 3 Lib.objectInit ∈ lw_g := lw_g_of (lw_t1 (List.mem_of_getElem? (i := 35) (by decide +kernel))) rfl
theorem l_tr_3 : Cond.methodLink "GasTurn$Trace" 3 Lib.objectInit ∈ lw_g := lw_g_of (lw_t1 (List.mem_of_getElem? (i := 100) (by decide +kernel))) rfl
theorem l_ga_59 : Cond.methodLink "GasTurn" 59 m_se_init.1 ∈ lw_g := lw_g_of (lw_t1 (List.mem_of_getElem? (i := 116) (by decide +kernel))) rfl
theorem l_se_3 : Cond.methodLink "GasTurn$Sectors" 3 Lib.objectInit ∈ lw_g := lw_g_of (lw_t1 (List.mem_of_getElem? (i := 119) (by decide +kernel))) rfl
theorem l_du_3 : Cond.methodLink "GasTurn$Duty" 3 Lib.objectInit ∈ lw_g := lw_g_of (lw_t1 (List.mem_of_getElem? (i := 169) (by decide +kernel))) rfl
theorem l_la_3 : Cond.methodLink "GasTurn$Laws" 3 Lib.objectInit ∈ lw_g := lw_g_of (lw_t1 (List.mem_of_getElem? (i := 217) (by decide +kernel))) rfl
theorem l_sh_3 : Cond.methodLink "GasTurn$Sheets" 3 Lib.objectInit ∈ lw_g := lw_g_of (lw_t2 (List.mem_of_getElem? (i := 13) (by decide +kernel))) rfl
theorem l_lw_13 : Cond.methodLink "GasTurnLaw" 13 m_ga_knot.1 ∈ lw_g := lw_g_of (lw_t2 (List.mem_of_getElem? (i := 90) (by decide +kernel))) rfl
theorem l_lw_18 : Cond.methodLink "GasTurnLaw" 18 m_ga_pipe.1 ∈ lw_g := lw_g_of (lw_t2 (List.mem_of_getElem? (i := 94) (by decide +kernel))) rfl
theorem l_ga_91 : Cond.methodLink "GasTurn" 91 m_ne_hasKnot.1 ∈ lw_g := lw_g_of (lw_t2 (List.mem_of_getElem? (i := 98) (by decide +kernel))) rfl
theorem l_ga_95 : Cond.methodLink "GasTurn" 95 m_ga_isFlag.1 ∈ lw_g := lw_g_of (lw_t2 (List.mem_of_getElem? (i := 105) (by decide +kernel))) rfl
theorem l_ga_101 : Cond.methodLink "GasTurn" 101 m_ne_addPipe.1 ∈ lw_g := lw_g_of (lw_t2 (List.mem_of_getElem? (i := 108) (by decide +kernel))) rfl
theorem l_lw_23 : Cond.methodLink "GasTurnLaw" 23 m_ga_valve.1 ∈ lw_g := lw_g_of (lw_t2 (List.mem_of_getElem? (i := 112) (by decide +kernel))) rfl
theorem l_ga_105 : Cond.methodLink "GasTurn" 105 m_ne_hasPipe.1 ∈ lw_g := lw_g_of (lw_t2 (List.mem_of_getElem? (i := 116) (by decide +kernel))) rfl
theorem l_ga_115 : Cond.methodLink "GasTurn" 115 m_ga_flag.1 ∈ lw_g := lw_g_of (lw_t2 (List.mem_of_getElem? (i := 120) (by decide +kernel))) rfl
theorem l_ga_119 : Cond.methodLink "GasTurn" 119 m_ne_joinOpen.1 ∈ lw_g := lw_g_of (lw_t2 (List.mem_of_getElem? (i := 123) (by decide +kernel))) rfl
theorem l_ne_60 : Cond.methodLink "GasTurn$Net" 60 m_ar_fill.1 ∈ lw_g := lw_g_of (lw_t2 (List.mem_of_getElem? (i := 127) (by decide +kernel))) rfl
theorem l_lw_28 : Cond.methodLink "GasTurnLaw" 28 m_ga_lost.1 ∈ lw_g := lw_g_of (lw_t2 (List.mem_of_getElem? (i := 130) (by decide +kernel))) rfl
theorem l_lw_33 : Cond.methodLink "GasTurnLaw" 33 m_ga_pipeOf.1 ∈ lw_g := lw_g_of (lw_t2 (List.mem_of_getElem? (i := 134) (by decide +kernel))) rfl
theorem l_lw_37 : Cond.methodLink "GasTurnLaw" 37 m_ga_works.1 ∈ lw_g := lw_g_of (lw_t2 (List.mem_of_getElem? (i := 138) (by decide +kernel))) rfl
theorem l_ga_128 : Cond.methodLink "GasTurn" 128 m_ga_isWithin.1 ∈ lw_g := lw_g_of (lw_t2 (List.mem_of_getElem? (i := 142) (by decide +kernel))) rfl
theorem l_ga_135 : Cond.methodLink "GasTurn" 135 m_ne_addWork.1 ∈ lw_g := lw_g_of (lw_t2 (List.mem_of_getElem? (i := 143) (by decide +kernel))) rfl
theorem l_lw_41 : Cond.methodLink "GasTurnLaw" 41 m_ga_close.1 ∈ lw_g := lw_g_of (lw_t2 (List.mem_of_getElem? (i := 147) (by decide +kernel))) rfl
theorem l_ga_139 : Cond.methodLink "GasTurn" 139 m_ne_hasWork.1 ∈ lw_g := lw_g_of (lw_t2 (List.mem_of_getElem? (i := 151) (by decide +kernel))) rfl
theorem l_lw_45 : Cond.methodLink "GasTurnLaw" 45 m_ga_work.1 ∈ lw_g := lw_g_of (lw_t2 (List.mem_of_getElem? (i := 155) (by decide +kernel))) rfl
theorem l_ga_154 : Cond.methodLink "GasTurn" 154 m_ga_isSpared.1 ∈ lw_g := lw_g_of (lw_t2 (List.mem_of_getElem? (i := 159) (by decide +kernel))) rfl
theorem l_ga_170 : Cond.methodLink "GasTurn" 170 m_ne_areaOf.1 ∈ lw_g := lw_g_of (lw_t2 (List.mem_of_getElem? (i := 163) (by decide +kernel))) rfl
theorem l_ne_70 : Cond.methodLink "GasTurn$Net" 70 m_ne_allKnots.1 ∈ lw_g := lw_g_of (lw_t2 (List.mem_of_getElem? (i := 167) (by decide +kernel))) rfl
theorem l_ne_74 : Cond.methodLink "GasTurn$Net" 74 m_ne_spread.1 ∈ lw_g := lw_g_of (lw_t2 (List.mem_of_getElem? (i := 171) (by decide +kernel))) rfl
theorem l_ga_482 : Cond.methodLink "GasTurn" 482 m_in_bitCount.1 ∈ lw_g := lw_g_of (lw_t2 (List.mem_of_getElem? (i := 178) (by decide +kernel))) rfl
theorem l_ga_174 : Cond.methodLink "GasTurn" 174 m_ne_makeIn.1 ∈ lw_g := lw_g_of (lw_t2 (List.mem_of_getElem? (i := 184) (by decide +kernel))) rfl
theorem l_ga_177 : Cond.methodLink "GasTurn" 177 m_ga_useIn.1 ∈ lw_g := lw_g_of (lw_t2 (List.mem_of_getElem? (i := 191) (by decide +kernel))) rfl
theorem l_ga_351 : Cond.methodLink "GasTurn" 351 m_ga_hasBit.1 ∈ lw_g := lw_g_of (lw_t2 (List.mem_of_getElem? (i := 195) (by decide +kernel))) rfl
theorem l_lw_49 : Cond.methodLink "GasTurnLaw" 49 m_ga_terminal.1 ∈ lw_g := lw_g_of (lw_t2 (List.mem_of_getElem? (i := 196) (by decide +kernel))) rfl
theorem l_lw_53 : Cond.methodLink "GasTurnLaw" 53 m_ga_gas.1 ∈ lw_g := lw_g_of (lw_t2 (List.mem_of_getElem? (i := 200) (by decide +kernel))) rfl
theorem l_ga_160 : Cond.methodLink "GasTurn" 160 m_ne_oldReach.1 ∈ lw_g := lw_g_of (lw_t2 (List.mem_of_getElem? (i := 204) (by decide +kernel))) rfl
theorem l_ga_164 : Cond.methodLink "GasTurn" 164 m_ne_newReach.1 ∈ lw_g := lw_g_of (lw_t2 (List.mem_of_getElem? (i := 208) (by decide +kernel))) rfl
theorem l_ne_78 : Cond.methodLink "GasTurn$Net" 78 m_ne_terminalBit.1 ∈ lw_g := lw_g_of (lw_t2 (List.mem_of_getElem? (i := 212) (by decide +kernel))) rfl
theorem l_ga_167 : Cond.methodLink "GasTurn" 167 m_ga_gasAt.1 ∈ lw_g := lw_g_of (lw_t2 (List.mem_of_getElem? (i := 216) (by decide +kernel))) rfl
theorem l_lw_57 : Cond.methodLink "GasTurnLaw" 57 m_ga_area.1 ∈ lw_g := lw_g_of (lw_t2 (List.mem_of_getElem? (i := 219) (by decide +kernel))) rfl
theorem l_lw_61 : Cond.methodLink "GasTurnLaw" 61 m_ga_pressure.1 ∈ lw_g := lw_g_of (lw_t2 (List.mem_of_getElem? (i := 223) (by decide +kernel))) rfl
theorem l_ga_181 : Cond.methodLink "GasTurn" 181 m_ga_stepsUpTo.1 ∈ lw_g := lw_g_of (lw_t2 (List.mem_of_getElem? (i := 227) (by decide +kernel))) rfl
theorem l_lw_65 : Cond.methodLink "GasTurnLaw" 65 m_ga_step.1 ∈ lw_g := lw_g_of (lw_t2 (List.mem_of_getElem? (i := 231) (by decide +kernel))) rfl
theorem l_lw_69 : Cond.methodLink "GasTurnLaw" 69 m_ga_model.1 ∈ lw_g := lw_g_of (lw_t2 (List.mem_of_getElem? (i := 235) (by decide +kernel))) rfl
theorem l_ga_184 : Cond.methodLink "GasTurn" 184 m_ga_isJet.1 ∈ lw_g := lw_g_of (lw_t2 (List.mem_of_getElem? (i := 239) (by decide +kernel))) rfl
theorem l_ga_190 : Cond.methodLink "GasTurn" 190 m_ga_newModel.1 ∈ lw_g := lw_g_of (lw_t3 (List.mem_of_getElem? (i := 2) (by decide +kernel))) rfl
theorem l_ga_489 : Cond.methodLink "GasTurn" 489 m_ov_init.1 ∈ lw_g := lw_g_of (lw_t3 (List.mem_of_getElem? (i := 8) (by decide +kernel))) rfl
theorem l_ov_3 : Cond.methodLink "GasTurn$Oven" 3 m_ri_init.1 ∈ lw_g := lw_g_of (lw_t3 (List.mem_of_getElem? (i := 11) (by decide +kernel))) rfl
theorem l_ri_3 : Cond.methodLink "GasTurn$Ring" 3 Lib.objectInit ∈ lw_g := lw_g_of (lw_t3 (List.mem_of_getElem? (i := 14) (by decide +kernel))) rfl
theorem l_ga_494 : Cond.methodLink "GasTurn" 494 m_gr_init.1 ∈ lw_g := lw_g_of (lw_t3 (List.mem_of_getElem? (i := 51) (by decide +kernel))) rfl
theorem l_gr_3 : Cond.methodLink "GasTurn$Grill" 3 m_ov_init.1 ∈ lw_g := lw_g_of (lw_t3 (List.mem_of_getElem? (i := 54) (by decide +kernel))) rfl
theorem l_ga_497 : Cond.methodLink "GasTurn" 497 m_fi_init.1 ∈ lw_g := lw_g_of (lw_t3 (List.mem_of_getElem? (i := 64) (by decide +kernel))) rfl
theorem l_fi_3 : Cond.methodLink "GasTurn$Fire" 3 m_ri_init.1 ∈ lw_g := lw_g_of (lw_t3 (List.mem_of_getElem? (i := 67) (by decide +kernel))) rfl
theorem l_ga_498 : Cond.methodLink "GasTurn" 498 m_ri_init.1 ∈ lw_g := lw_g_of (lw_t3 (List.mem_of_getElem? (i := 76) (by decide +kernel))) rfl
theorem l_lw_74 : Cond.methodLink "GasTurnLaw" 74 m_ga_home.1 ∈ lw_g := lw_g_of (lw_t3 (List.mem_of_getElem? (i := 84) (by decide +kernel))) rfl
theorem l_ga_194 : Cond.methodLink "GasTurn" 194 m_ga_modelAt.1 ∈ lw_g := lw_g_of (lw_t3 (List.mem_of_getElem? (i := 88) (by decide +kernel))) rfl
theorem l_ga_201 : Cond.methodLink "GasTurn" 201 m_ho_init.1 ∈ lw_g := lw_g_of (lw_t3 (List.mem_of_getElem? (i := 93) (by decide +kernel))) rfl
theorem l_ho_3 : Cond.methodLink "GasTurn$Home" 3 Lib.objectInit ∈ lw_g := lw_g_of (lw_t3 (List.mem_of_getElem? (i := 96) (by decide +kernel))) rfl
theorem l_lw_79 : Cond.methodLink "GasTurnLaw" 79 m_ga_survey.1 ∈ lw_g := lw_g_of (lw_t3 (List.mem_of_getElem? (i := 136) (by decide +kernel))) rfl
theorem l_ga_204 : Cond.methodLink "GasTurn" 204 m_ga_homeAt.1 ∈ lw_g := lw_g_of (lw_t3 (List.mem_of_getElem? (i := 140) (by decide +kernel))) rfl
theorem l_ga_208 : Cond.methodLink "GasTurn" 208 m_ga_addSurvey.1 ∈ lw_g := lw_g_of (lw_t3 (List.mem_of_getElem? (i := 144) (by decide +kernel))) rfl
theorem l_ga_499 : Cond.methodLink "GasTurn" 499 m_ga_allModels.1 ∈ lw_g := lw_g_of (lw_t3 (List.mem_of_getElem? (i := 148) (by decide +kernel))) rfl
theorem l_lw_83 : Cond.methodLink "GasTurnLaw" 83 m_ga_lay.1 ∈ lw_g := lw_g_of (lw_t3 (List.mem_of_getElem? (i := 152) (by decide +kernel))) rfl
theorem l_ga_212 : Cond.methodLink "GasTurn" 212 m_sh_has.1 ∈ lw_g := lw_g_of (lw_t3 (List.mem_of_getElem? (i := 156) (by decide +kernel))) rfl
theorem l_ga_215 : Cond.methodLink "GasTurn" 215 m_sh_isMissing.1 ∈ lw_g := lw_g_of (lw_t3 (List.mem_of_getElem? (i := 161) (by decide +kernel))) rfl
theorem l_ga_221 : Cond.methodLink "GasTurn" 221 m_sh_hasItem.1 ∈ lw_g := lw_g_of (lw_t3 (List.mem_of_getElem? (i := 165) (by decide +kernel))) rfl
theorem l_lw_87 : Cond.methodLink "GasTurnLaw" 87 m_ga_known.1 ∈ lw_g := lw_g_of (lw_t3 (List.mem_of_getElem? (i := 169) (by decide +kernel))) rfl
theorem l_ga_229 : Cond.methodLink "GasTurn" 229 m_ga_knownSet.1 ∈ lw_g := lw_g_of (lw_t3 (List.mem_of_getElem? (i := 173) (by decide +kernel))) rfl
theorem l_lw_91 : Cond.methodLink "GasTurnLaw" 91 m_ga_need.1 ∈ lw_g := lw_g_of (lw_t3 (List.mem_of_getElem? (i := 177) (by decide +kernel))) rfl
theorem l_ga_232 : Cond.methodLink "GasTurn" 232 m_se_has.1 ∈ lw_g := lw_g_of (lw_t3 (List.mem_of_getElem? (i := 181) (by decide +kernel))) rfl
theorem l_ga_236 : Cond.methodLink "GasTurn" 236 m_ga_needOf.1 ∈ lw_g := lw_g_of (lw_t3 (List.mem_of_getElem? (i := 186) (by decide +kernel))) rfl
theorem l_ga_505 : Cond.methodLink "GasTurn" 505 m_ga_takenBy.1 ∈ lw_g := lw_g_of (lw_t3 (List.mem_of_getElem? (i := 190) (by decide +kernel))) rfl
theorem l_ga_508 : Cond.methodLink "GasTurn" 508 m_ri_takes.1 ∈ lw_g := lw_g_of (lw_t3 (List.mem_of_getElem? (i := 194) (by decide +kernel))) rfl
theorem l_ga_440 : Cond.methodLink "GasTurn" 440 m_ma_min.1 ∈ lw_g := lw_g_of (lw_t3 (List.mem_of_getElem? (i := 202) (by decide +kernel))) rfl
theorem l_ga_511 : Cond.methodLink "GasTurn" 511 m_ma_max.1 ∈ lw_g := lw_g_of (lw_t3 (List.mem_of_getElem? (i := 205) (by decide +kernel))) rfl
theorem l_lw_95 : Cond.methodLink "GasTurnLaw" 95 m_ga_homeOf.1 ∈ lw_g := lw_g_of (lw_t3 (List.mem_of_getElem? (i := 208) (by decide +kernel))) rfl
theorem l_lw_99 : Cond.methodLink "GasTurnLaw" 99 m_ga_stock.1 ∈ lw_g := lw_g_of (lw_t3 (List.mem_of_getElem? (i := 212) (by decide +kernel))) rfl
theorem l_lw_103 : Cond.methodLink "GasTurnLaw" 103 m_ga_order.1 ∈ lw_g := lw_g_of (lw_t3 (List.mem_of_getElem? (i := 216) (by decide +kernel))) rfl
theorem l_lw_107 : Cond.methodLink "GasTurnLaw" 107 m_ga_sector.1 ∈ lw_g := lw_g_of (lw_t3 (List.mem_of_getElem? (i := 220) (by decide +kernel))) rfl
theorem l_ga_271 : Cond.methodLink "GasTurn" 271 m_ne_allKnots.1 ∈ lw_g := lw_g_of (lw_t3 (List.mem_of_getElem? (i := 224) (by decide +kernel))) rfl
theorem l_ga_274 : Cond.methodLink "GasTurn" 274 m_se_all.1 ∈ lw_g := lw_g_of (lw_t3 (List.mem_of_getElem? (i := 225) (by decide +kernel))) rfl
theorem l_ga_277 : Cond.methodLink "GasTurn" 277 m_se_knotsOf.1 ∈ lw_g := lw_g_of (lw_t3 (List.mem_of_getElem? (i := 229) (by decide +kernel))) rfl
theorem l_lw_111 : Cond.methodLink "GasTurnLaw" 111 m_ga_why.1 ∈ lw_g := lw_g_of (lw_t3 (List.mem_of_getElem? (i := 234) (by decide +kernel))) rfl
theorem l_ga_283 : Cond.methodLink "GasTurn" 283 m_ga_whatHinders.1 ∈ lw_g := lw_g_of (lw_t3 (List.mem_of_getElem? (i := 238) (by decide +kernel))) rfl
theorem l_ga_286 : Cond.methodLink "GasTurn" 286 m_ga_countLack.1 ∈ lw_g := lw_g_of (lw_t4 (List.mem_of_getElem? (i := 2) (by decide +kernel))) rfl
theorem l_ga_464 : Cond.methodLink "GasTurn" 464 m_ar_fill.1 ∈ lw_g := lw_g_of (lw_t4 (List.mem_of_getElem? (i := 6) (by decide +kernel))) rfl
theorem l_ga_517 : Cond.methodLink "GasTurn" 517 m_se_hindrance.1 ∈ lw_g := lw_g_of (lw_t4 (List.mem_of_getElem? (i := 7) (by decide +kernel))) rfl
theorem l_se_59 : Cond.methodLink "GasTurn$Sectors" 59 m_se_isChanged.1 ∈ lw_g := lw_g_of (lw_t4 (List.mem_of_getElem? (i := 11) (by decide +kernel))) rfl
theorem l_se_63 : Cond.methodLink "GasTurn$Sectors" 63 m_se_changedKnots.1 ∈ lw_g := lw_g_of (lw_t4 (List.mem_of_getElem? (i := 15) (by decide +kernel))) rfl
theorem l_se_52 : Cond.methodLink "GasTurn$Sectors" 52 m_se_knotsOf.1 ∈ lw_g := lw_g_of (lw_t4 (List.mem_of_getElem? (i := 19) (by decide +kernel))) rfl
theorem l_se_67 : Cond.methodLink "GasTurn$Sectors" 67 m_ne_canBePartedFromRest.1 ∈ lw_g := lw_g_of (lw_t4 (List.mem_of_getElem? (i := 20) (by decide +kernel))) rfl
theorem l_ne_89 : Cond.methodLink "GasTurn$Net" 89 m_ne_crosses.1 ∈ lw_g := lw_g_of (lw_t4 (List.mem_of_getElem? (i := 24) (by decide +kernel))) rfl
theorem l_se_72 : Cond.methodLink "GasTurn$Sectors" 72 m_ne_fedWithin.1 ∈ lw_g := lw_g_of (lw_t4 (List.mem_of_getElem? (i := 28) (by decide +kernel))) rfl
theorem l_se_75 : Cond.methodLink "GasTurn$Sectors" 75 m_se_restIsSupplied.1 ∈ lw_g := lw_g_of (lw_t4 (List.mem_of_getElem? (i := 32) (by decide +kernel))) rfl
theorem l_se_78 : Cond.methodLink "GasTurn$Sectors" 78 m_ne_allKnots.1 ∈ lw_g := lw_g_of (lw_t4 (List.mem_of_getElem? (i := 36) (by decide +kernel))) rfl
theorem l_se_87 : Cond.methodLink "GasTurn$Sectors" 87 m_ne_spread.1 ∈ lw_g := lw_g_of (lw_t4 (List.mem_of_getElem? (i := 38) (by decide +kernel))) rfl
theorem l_se_91 : Cond.methodLink "GasTurn$Sectors" 91 m_se_lackIn.1 ∈ lw_g := lw_g_of (lw_t4 (List.mem_of_getElem? (i := 39) (by decide +kernel))) rfl
theorem l_ga_520 : Cond.methodLink "GasTurn" 520 m_la_bars.1 ∈ lw_g := lw_g_of (lw_t4 (List.mem_of_getElem? (i := 43) (by decide +kernel))) rfl
theorem l_lw_115 : Cond.methodLink "GasTurnLaw" 115 m_ga_best.1 ∈ lw_g := lw_g_of (lw_t4 (List.mem_of_getElem? (i := 48) (by decide +kernel))) rfl
theorem l_ga_289 : Cond.methodLink "GasTurn" 289 m_se_findBestRow.1 ∈ lw_g := lw_g_of (lw_t4 (List.mem_of_getElem? (i := 52) (by decide +kernel))) rfl
theorem l_se_97 : Cond.methodLink "GasTurn$Sectors" 97 m_se_all.1 ∈ lw_g := lw_g_of (lw_t4 (List.mem_of_getElem? (i := 56) (by decide +kernel))) rfl
theorem l_se_100 : Cond.methodLink "GasTurn$Sectors" 100 m_se_weigh.1 ∈ lw_g := lw_g_of (lw_t4 (List.mem_of_getElem? (i := 57) (by decide +kernel))) rfl
theorem l_se_104 : Cond.methodLink "GasTurn$Sectors" 104 m_se_priceAfter.1 ∈ lw_g := lw_g_of (lw_t4 (List.mem_of_getElem? (i := 61) (by decide +kernel))) rfl
theorem l_se_111 : Cond.methodLink "GasTurn$Sectors" 111 m_ne_pipesToRest.1 ∈ lw_g := lw_g_of (lw_t4 (List.mem_of_getElem? (i := 66) (by decide +kernel))) rfl
theorem l_se_108 : Cond.methodLink "GasTurn$Sectors" 108 m_se_tellRow.1 ∈ lw_g := lw_g_of (lw_t4 (List.mem_of_getElem? (i := 70) (by decide +kernel))) rfl
theorem l_lw_119 : Cond.methodLink "GasTurnLaw" 119 m_ga_bestAt.1 ∈ lw_g := lw_g_of (lw_t4 (List.mem_of_getElem? (i := 74) (by decide +kernel))) rfl
theorem l_lw_123 : Cond.methodLink "GasTurnLaw" 123 m_ga_plan.1 ∈ lw_g := lw_g_of (lw_t4 (List.mem_of_getElem? (i := 78) (by decide +kernel))) rfl
theorem l_ga_298 : Cond.methodLink "GasTurn" 298 m_se_isChanged.1 ∈ lw_g := lw_g_of (lw_t4 (List.mem_of_getElem? (i := 82) (by decide +kernel))) rfl
theorem l_ga_301 : Cond.methodLink "GasTurn" 301 m_se_isPlanned.1 ∈ lw_g := lw_g_of (lw_t4 (List.mem_of_getElem? (i := 83) (by decide +kernel))) rfl
theorem l_ga_304 : Cond.methodLink "GasTurn" 304 m_se_addToPlan.1 ∈ lw_g := lw_g_of (lw_t4 (List.mem_of_getElem? (i := 87) (by decide +kernel))) rfl
theorem l_lw_127 : Cond.methodLink "GasTurnLaw" 127 m_ga_unplan.1 ∈ lw_g := lw_g_of (lw_t4 (List.mem_of_getElem? (i := 91) (by decide +kernel))) rfl
theorem l_lw_131 : Cond.methodLink "GasTurnLaw" 131 m_ga_shortOf.1 ∈ lw_g := lw_g_of (lw_t4 (List.mem_of_getElem? (i := 95) (by decide +kernel))) rfl
theorem l_ga_316 : Cond.methodLink "GasTurn" 316 m_ga_orderedTill.1 ∈ lw_g := lw_g_of (lw_t4 (List.mem_of_getElem? (i := 99) (by decide +kernel))) rfl
theorem l_lw_135 : Cond.methodLink "GasTurnLaw" 135 m_ga_fitter.1 ∈ lw_g := lw_g_of (lw_t4 (List.mem_of_getElem? (i := 103) (by decide +kernel))) rfl
theorem l_ga_323 : Cond.methodLink "GasTurn" 323 m_du_addFitter.1 ∈ lw_g := lw_g_of (lw_t4 (List.mem_of_getElem? (i := 107) (by decide +kernel))) rfl
theorem l_lw_139 : Cond.methodLink "GasTurnLaw" 139 m_ga_change.1 ∈ lw_g := lw_g_of (lw_t4 (List.mem_of_getElem? (i := 111) (by decide +kernel))) rfl
theorem l_ga_326 : Cond.methodLink "GasTurn" 326 m_se_setChanged.1 ∈ lw_g := lw_g_of (lw_t4 (List.mem_of_getElem? (i := 115) (by decide +kernel))) rfl
theorem l_ga_330 : Cond.methodLink "GasTurn" 330 m_ne_closeWorksAt.1 ∈ lw_g := lw_g_of (lw_t4 (List.mem_of_getElem? (i := 119) (by decide +kernel))) rfl
theorem l_ga_333 : Cond.methodLink "GasTurn" 333 m_se_changedKnots.1 ∈ lw_g := lw_g_of (lw_t4 (List.mem_of_getElem? (i := 123) (by decide +kernel))) rfl
theorem l_ga_336 : Cond.methodLink "GasTurn" 336 m_ne_partFromRest.1 ∈ lw_g := lw_g_of (lw_t4 (List.mem_of_getElem? (i := 124) (by decide +kernel))) rfl
theorem l_ne_92 : Cond.methodLink "GasTurn$Net" 92 m_ne_joinOpen.1 ∈ lw_g := lw_g_of (lw_t4 (List.mem_of_getElem? (i := 128) (by decide +kernel))) rfl
theorem l_ga_339 : Cond.methodLink "GasTurn" 339 m_ga_fitHomes.1 ∈ lw_g := lw_g_of (lw_t4 (List.mem_of_getElem? (i := 129) (by decide +kernel))) rfl
theorem l_ga_523 : Cond.methodLink "GasTurn" 523 m_ga_fitOnDay.1 ∈ lw_g := lw_g_of (lw_t4 (List.mem_of_getElem? (i := 133) (by decide +kernel))) rfl
theorem l_ga_361 : Cond.methodLink "GasTurn" 361 m_du_isTrained.1 ∈ lw_g := lw_g_of (lw_t4 (List.mem_of_getElem? (i := 137) (by decide +kernel))) rfl
theorem l_ga_364 : Cond.methodLink "GasTurn" 364 m_ga_hasJetsFor.1 ∈ lw_g := lw_g_of (lw_t4 (List.mem_of_getElem? (i := 142) (by decide +kernel))) rfl
theorem l_ga_368 : Cond.methodLink "GasTurn" 368 m_ga_fit.1 ∈ lw_g := lw_g_of (lw_t4 (List.mem_of_getElem? (i := 146) (by decide +kernel))) rfl
theorem l_ga_342 : Cond.methodLink "GasTurn" 342 m_ga_shutOldHomes.1 ∈ lw_g := lw_g_of (lw_t4 (List.mem_of_getElem? (i := 150) (by decide +kernel))) rfl
theorem l_ga_345 : Cond.methodLink "GasTurn" 345 m_ga_endWeek.1 ∈ lw_g := lw_g_of (lw_t4 (List.mem_of_getElem? (i := 154) (by decide +kernel))) rfl
theorem l_ga_537 : Cond.methodLink "GasTurn" 537 m_ne_burnCoal.1 ∈ lw_g := lw_g_of (lw_t4 (List.mem_of_getElem? (i := 158) (by decide +kernel))) rfl
theorem l_ne_85 : Cond.methodLink "GasTurn$Net" 85 m_ne_burnPart.1 ∈ lw_g := lw_g_of (lw_t4 (List.mem_of_getElem? (i := 162) (by decide +kernel))) rfl
theorem l_lw_143 : Cond.methodLink "GasTurnLaw" 143 m_ga_week.1 ∈ lw_g := lw_g_of (lw_t4 (List.mem_of_getElem? (i := 166) (by decide +kernel))) rfl
theorem l_lw_147 : Cond.methodLink "GasTurnLaw" 147 m_ga_later.1 ∈ lw_g := lw_g_of (lw_t4 (List.mem_of_getElem? (i := 170) (by decide +kernel))) rfl
theorem l_ga_348 : Cond.methodLink "GasTurn" 348 m_du_hasFitter.1 ∈ lw_g := lw_g_of (lw_t4 (List.mem_of_getElem? (i := 174) (by decide +kernel))) rfl
theorem l_lw_151 : Cond.methodLink "GasTurnLaw" 151 m_ga_danger.1 ∈ lw_g := lw_g_of (lw_t4 (List.mem_of_getElem? (i := 179) (by decide +kernel))) rfl
theorem l_lw_155 : Cond.methodLink "GasTurnLaw" 155 m_ga_smell.1 ∈ lw_g := lw_g_of (lw_t4 (List.mem_of_getElem? (i := 183) (by decide +kernel))) rfl
theorem l_ga_372 : Cond.methodLink "GasTurn" 372 m_du_latestMinute.1 ∈ lw_g := lw_g_of (lw_t4 (List.mem_of_getElem? (i := 187) (by decide +kernel))) rfl
theorem l_ga_378 : Cond.methodLink "GasTurn" 378 m_du_addSmell.1 ∈ lw_g := lw_g_of (lw_t4 (List.mem_of_getElem? (i := 191) (by decide +kernel))) rfl
theorem l_du_54 : Cond.methodLink "GasTurn$Duty" 54 m_ne_fewestPipes.1 ∈ lw_g := lw_g_of (lw_t4 (List.mem_of_getElem? (i := 195) (by decide +kernel))) rfl
theorem l_du_60 : Cond.methodLink "GasTurn$Duty" 60 m_ma_max.1 ∈ lw_g := lw_g_of (lw_t4 (List.mem_of_getElem? (i := 199) (by decide +kernel))) rfl
theorem l_lw_159 : Cond.methodLink "GasTurnLaw" 159 m_ga_smellOf.1 ∈ lw_g := lw_g_of (lw_t4 (List.mem_of_getElem? (i := 200) (by decide +kernel))) rfl
theorem l_ga_382 : Cond.methodLink "GasTurn" 382 m_du_hasSmell.1 ∈ lw_g := lw_g_of (lw_t4 (List.mem_of_getElem? (i := 204) (by decide +kernel))) rfl
theorem l_ga_397 : Cond.methodLink "GasTurn" 397 m_du_isLate.1 ∈ lw_g := lw_g_of (lw_t4 (List.mem_of_getElem? (i := 208) (by decide +kernel))) rfl
theorem l_lw_163 : Cond.methodLink "GasTurnLaw" 163 m_ga_limit.1 ∈ lw_g := lw_g_of (lw_t4 (List.mem_of_getElem? (i := 212) (by decide +kernel))) rfl
theorem l_lw_167 : Cond.methodLink "GasTurnLaw" 167 m_ga_fault.1 ∈ lw_g := lw_g_of (lw_t4 (List.mem_of_getElem? (i := 216) (by decide +kernel))) rfl
theorem l_ga_403 : Cond.methodLink "GasTurn" 403 m_ga_faults.1 ∈ lw_g := lw_g_of (lw_t4 (List.mem_of_getElem? (i := 220) (by decide +kernel))) rfl
theorem l_lw_171 : Cond.methodLink "GasTurnLaw" 171 m_ga_beyond.1 ∈ lw_g := lw_g_of (lw_t4 (List.mem_of_getElem? (i := 224) (by decide +kernel))) rfl
theorem l_ga_409 : Cond.methodLink "GasTurn" 409 m_ga_choose.1 ∈ lw_g := lw_g_of (lw_t4 (List.mem_of_getElem? (i := 228) (by decide +kernel))) rfl
theorem l_lw_175 : Cond.methodLink "GasTurnLaw" 175 m_ga_feed.1 ∈ lw_g := lw_g_of (lw_t4 (List.mem_of_getElem? (i := 232) (by decide +kernel))) rfl
theorem l_ga_418 : Cond.methodLink "GasTurn" 418 m_la_addBytes.1 ∈ lw_g := lw_g_of (lw_t4 (List.mem_of_getElem? (i := 236) (by decide +kernel))) rfl
theorem l_lw_179 : Cond.methodLink "GasTurnLaw" 179 m_ga_law.1 ∈ lw_g := lw_g_of (lw_t5 (List.mem_of_getElem? (i := 0) (by decide +kernel))) rfl
theorem l_ga_422 : Cond.methodLink "GasTurn" 422 m_la_readTape.1 ∈ lw_g := lw_g_of (lw_t5 (List.mem_of_getElem? (i := 4) (by decide +kernel))) rfl
theorem l_la_40 : Cond.methodLink "GasTurn$Laws" 40 m_la_match.1 ∈ lw_g := lw_g_of (lw_t5 (List.mem_of_getElem? (i := 9) (by decide +kernel))) rfl
theorem l_la_59 : Cond.methodLink "GasTurn$Laws" 59 m_st_length.1 ∈ lw_g := lw_g_of (lw_t5 (List.mem_of_getElem? (i := 13) (by decide +kernel))) rfl
theorem l_st_335 : Cond.methodLink "java/lang/String" 335 m_st_coder.1 ∈ lw_g := lw_g_of (lw_t5 (List.mem_of_getElem? (i := 17) (by decide +kernel))) rfl
theorem l_la_65 : Cond.methodLink "GasTurn$Laws" 65 m_st_charAt.1 ∈ lw_g := lw_g_of (lw_t5 (List.mem_of_getElem? (i := 23) (by decide +kernel))) rfl
theorem l_st_492 : Cond.methodLink "java/lang/String" 492 m_st_isLatin1.1 ∈ lw_g := lw_g_of (lw_t5 (List.mem_of_getElem? (i := 27) (by decide +kernel))) rfl
theorem l_st_495 : Cond.methodLink "java/lang/String" 495 m_sl_charAt.1 ∈ lw_g := lw_g_of (lw_t5 (List.mem_of_getElem? (i := 31) (by decide +kernel))) rfl
theorem l_sl_9 : Cond.methodLink "java/lang/StringLatin1" 9 m_st_checkIndex.1 ∈ lw_g := lw_g_of (lw_t5 (List.mem_of_getElem? (i := 34) (by decide +kernel))) rfl
theorem l_st_1059 : Cond.methodLink "java/lang/String" 1059 m_pr_checkIndex.1 ∈ lw_g := lw_g_of (lw_t5 (List.mem_of_getElem? (i := 39) (by decide +kernel))) rfl
theorem l_st_498 : Cond.methodLink "java/lang/String" 498 m_su_charAt.1 ∈ lw_g := lw_g_of (lw_t5 (List.mem_of_getElem? (i := 42) (by decide +kernel))) rfl
theorem l_su_67 : Cond.methodLink "java/lang/StringUTF16" 67 m_su_checkIndex.1 ∈ lw_g := lw_g_of (lw_t5 (List.mem_of_getElem? (i := 45) (by decide +kernel))) rfl
theorem l_su_48 : Cond.methodLink "java/lang/StringUTF16" 48 m_su_length.1 ∈ lw_g := lw_g_of (lw_t5 (List.mem_of_getElem? (i := 48) (by decide +kernel))) rfl
theorem l_su_414 : Cond.methodLink "java/lang/StringUTF16" 414 m_st_checkIndex.1 ∈ lw_g := lw_g_of (lw_t5 (List.mem_of_getElem? (i := 51) (by decide +kernel))) rfl
theorem l_su_71 : Cond.methodLink "java/lang/StringUTF16" 71 m_su_getChar.1 ∈ lw_g := lw_g_of (lw_t5 (List.mem_of_getElem? (i := 52) (by decide +kernel))) rfl
theorem l_la_69 : Cond.methodLink "GasTurn$Laws" 69 m_la_isDigit.1 ∈ lw_g := lw_g_of (lw_t5 (List.mem_of_getElem? (i := 61) (by decide +kernel))) rfl
theorem l_la_73 : Cond.methodLink "GasTurn$Laws" 73 m_la_endOfDigits.1 ∈ lw_g := lw_g_of (lw_t5 (List.mem_of_getElem? (i := 64) (by decide +kernel))) rfl
theorem l_la_76 : Cond.methodLink "GasTurn$Laws" 76 m_la_valueOf.1 ∈ lw_g := lw_g_of (lw_t5 (List.mem_of_getElem? (i := 68) (by decide +kernel))) rfl
theorem l_la_44 : Cond.methodLink "GasTurn$Laws" 44 m_la_addLaw.1 ∈ lw_g := lw_g_of (lw_t5 (List.mem_of_getElem? (i := 72) (by decide +kernel))) rfl
theorem l_la_50 : Cond.methodLink "GasTurn$Laws" 50 m_ma_max.1 ∈ lw_g := lw_g_of (lw_t5 (List.mem_of_getElem? (i := 77) (by decide +kernel))) rfl
theorem l_lw_183 : Cond.methodLink "GasTurnLaw" 183 m_ga_bill.1 ∈ lw_g := lw_g_of (lw_t5 (List.mem_of_getElem? (i := 79) (by decide +kernel))) rfl
theorem l_ga_425 : Cond.methodLink "GasTurn" 425 m_la_payFor.1 ∈ lw_g := lw_g_of (lw_t5 (List.mem_of_getElem? (i := 83) (by decide +kernel))) rfl
theorem l_lw_187 : Cond.methodLink "GasTurnLaw" 187 m_ga_act.1 ∈ lw_g := lw_g_of (lw_t5 (List.mem_of_getElem? (i := 87) (by decide +kernel))) rfl
theorem l_ga_431 : Cond.methodLink "GasTurn" 431 m_ri_burns.1 ∈ lw_g := lw_g_of (lw_t5 (List.mem_of_getElem? (i := 91) (by decide +kernel))) rfl
theorem l_fi_15 : Cond.methodLink "GasTurn$Fire" 15 m_tr_begin.1 ∈ lw_g := lw_g_of (lw_t5 (List.mem_of_getElem? (i := 98) (by decide +kernel))) rfl
theorem l_fi_21 : Cond.methodLink "GasTurn$Fire" 21 m_ri_burns.1 ∈ lw_g := lw_g_of (lw_t5 (List.mem_of_getElem? (i := 102) (by decide +kernel))) rfl
theorem l_gr_15 : Cond.methodLink "GasTurn$Grill" 15 m_tr_begin.1 ∈ lw_g := lw_g_of (lw_t5 (List.mem_of_getElem? (i := 106) (by decide +kernel))) rfl
theorem l_gr_21 : Cond.methodLink "GasTurn$Grill" 21 ⟨"GasTurn$Oven", "burns", "(I)I"⟩ ∈ lw_g := lw_g_of (lw_t5 (List.mem_of_getElem? (i := 107) (by decide +kernel))) rfl
theorem l_ri_31 : Cond.methodLink "GasTurn$Ring" 31 m_tr_begin.1 ∈ lw_g := lw_g_of (lw_t5 (List.mem_of_getElem? (i := 112) (by decide +kernel))) rfl
theorem l_ga_434 : Cond.methodLink "GasTurn" 434 m_ri_warms.1 ∈ lw_g := lw_g_of (lw_t5 (List.mem_of_getElem? (i := 113) (by decide +kernel))) rfl
theorem l_fi_29 : Cond.methodLink "GasTurn$Fire" 29 m_ri_warms.1 ∈ lw_g := lw_g_of (lw_t5 (List.mem_of_getElem? (i := 120) (by decide +kernel))) rfl
theorem l_fi_32 : Cond.methodLink "GasTurn$Fire" 32 m_fi_burns.1 ∈ lw_g := lw_g_of (lw_t5 (List.mem_of_getElem? (i := 121) (by decide +kernel))) rfl
theorem l_ov_15 : Cond.methodLink "GasTurn$Oven" 15 m_tr_begin.1 ∈ lw_g := lw_g_of (lw_t5 (List.mem_of_getElem? (i := 125) (by decide +kernel))) rfl
theorem l_ov_21 : Cond.methodLink "GasTurn$Oven" 21 m_ri_warms.1 ∈ lw_g := lw_g_of (lw_t5 (List.mem_of_getElem? (i := 126) (by decide +kernel))) rfl
theorem l_ri_37 : Cond.methodLink "GasTurn$Ring" 37 m_ri_burns.1 ∈ lw_g := lw_g_of (lw_t5 (List.mem_of_getElem? (i := 129) (by decide +kernel))) rfl
theorem l_ga_437 : Cond.methodLink "GasTurn" 437 m_ri_fits.1 ∈ lw_g := lw_g_of (lw_t5 (List.mem_of_getElem? (i := 130) (by decide +kernel))) rfl
theorem l_gr_25 : Cond.methodLink "GasTurn$Grill" 25 ⟨"GasTurn$Oven", "fits", "(I)I"⟩ ∈ lw_g := lw_g_of (lw_t5 (List.mem_of_getElem? (i := 138) (by decide +kernel))) rfl
theorem l_ri_41 : Cond.methodLink "GasTurn$Ring" 41 m_ri_warms.1 ∈ lw_g := lw_g_of (lw_t5 (List.mem_of_getElem? (i := 143) (by decide +kernel))) rfl
theorem l_lw_191 : Cond.methodLink "GasTurnLaw" 191 m_ga_trace.1 ∈ lw_g := lw_g_of (lw_t5 (List.mem_of_getElem? (i := 144) (by decide +kernel))) rfl
theorem l_lw_195 : Cond.methodLink "GasTurnLaw" 195 m_ga_taken.1 ∈ lw_g := lw_g_of (lw_t5 (List.mem_of_getElem? (i := 148) (by decide +kernel))) rfl
theorem l_ga_448 : Cond.methodLink "GasTurn" 448 m_ga_isOfKind.1 ∈ lw_g := lw_g_of (lw_t5 (List.mem_of_getElem? (i := 152) (by decide +kernel))) rfl
theorem l_ga_452 : Cond.methodLink "GasTurn" 452 m_ri_kindNumber.1 ∈ lw_g := lw_g_of (lw_t5 (List.mem_of_getElem? (i := 155) (by decide +kernel))) rfl
theorem l_lw_199 : Cond.methodLink "GasTurnLaw" 199 m_ga_count.1 ∈ lw_g := lw_g_of (lw_t5 (List.mem_of_getElem? (i := 169) (by decide +kernel))) rfl
theorem l_ga_455 : Cond.methodLink "GasTurn" 455 m_ne_shutValves.1 ∈ lw_g := lw_g_of (lw_t5 (List.mem_of_getElem? (i := 173) (by decide +kernel))) rfl
theorem l_ga_458 : Cond.methodLink "GasTurn" 458 m_ga_shutHomes.1 ∈ lw_g := lw_g_of (lw_t5 (List.mem_of_getElem? (i := 177) (by decide +kernel))) rfl
theorem l_lw_203 : Cond.methodLink "GasTurnLaw" 203 m_ga_sheet.1 ∈ lw_g := lw_g_of (lw_t5 (List.mem_of_getElem? (i := 181) (by decide +kernel))) rfl
theorem l_lw_207 : Cond.methodLink "GasTurnLaw" 207 m_ga_cell.1 ∈ lw_g := lw_g_of (lw_t5 (List.mem_of_getElem? (i := 185) (by decide +kernel))) rfl
theorem l_ga_470 : Cond.methodLink "GasTurn" 470 m_sh_cutToSort.1 ∈ lw_g := lw_g_of (lw_t5 (List.mem_of_getElem? (i := 189) (by decide +kernel))) rfl
theorem l_lw_211 : Cond.methodLink "GasTurnLaw" 211 m_ga_copy.1 ∈ lw_g := lw_g_of (lw_t5 (List.mem_of_getElem? (i := 193) (by decide +kernel))) rfl
theorem l_ga_473 : Cond.methodLink "GasTurn" 473 m_sh_hasRun.1 ∈ lw_g := lw_g_of (lw_t5 (List.mem_of_getElem? (i := 197) (by decide +kernel))) rfl
theorem l_ga_476 : Cond.methodLink "GasTurn" 476 ⟨"java/lang/System", "arraycopy", "(Ljava/lang/Object;ILjava/lang/Object;II)V"⟩ ∈ lw_g := lw_g_of (lw_t5 (List.mem_of_getElem? (i := 201) (by decide +kernel))) rfl
theorem l_lw_12 : Cond.methodLink "GasTurnLaw" 12 m_mo_init.1 ∈ lw_g := lw_g_of (lw_t5 (List.mem_of_getElem? (i := 206) (by decide +kernel))) rfl
theorem l_mo_1 : Cond.methodLink "GasTurnModel" 1 Lib.objectInit ∈ lw_g := lw_g_of (lw_t5 (List.mem_of_getElem? (i := 209) (by decide +kernel))) rfl
theorem l_lw_17 : Cond.methodLink "GasTurnLaw" 17 m_mo_knot.1 ∈ lw_g := lw_g_of (lw_t6 (List.mem_of_getElem? (i := 209) (by decide +kernel))) rfl
theorem l_lw_22 : Cond.methodLink "GasTurnLaw" 22 m_mo_pipe.1 ∈ lw_g := lw_g_of (lw_t6 (List.mem_of_getElem? (i := 213) (by decide +kernel))) rfl
theorem l_mo_212 : Cond.methodLink "GasTurnModel" 212 m_mo_isKnot.1 ∈ lw_g := lw_g_of (lw_t6 (List.mem_of_getElem? (i := 217) (by decide +kernel))) rfl
theorem l_mo_196 : Cond.methodLink "GasTurnModel" 196 m_mo_in.1 ∈ lw_g := lw_g_of (lw_t6 (List.mem_of_getElem? (i := 221) (by decide +kernel))) rfl
theorem l_lw_27 : Cond.methodLink "GasTurnLaw" 27 m_mo_valve.1 ∈ lw_g := lw_g_of (lw_t6 (List.mem_of_getElem? (i := 224) (by decide +kernel))) rfl
theorem l_lw_32 : Cond.methodLink "GasTurnLaw" 32 m_mo_lost.1 ∈ lw_g := lw_g_of (lw_t6 (List.mem_of_getElem? (i := 228) (by decide +kernel))) rfl
theorem l_lw_36 : Cond.methodLink "GasTurnLaw" 36 m_mo_pipeOf.1 ∈ lw_g := lw_g_of (lw_t6 (List.mem_of_getElem? (i := 232) (by decide +kernel))) rfl
theorem l_lw_40 : Cond.methodLink "GasTurnLaw" 40 m_mo_works.1 ∈ lw_g := lw_g_of (lw_t6 (List.mem_of_getElem? (i := 236) (by decide +kernel))) rfl
theorem l_lw_44 : Cond.methodLink "GasTurnLaw" 44 m_mo_close.1 ∈ lw_g := lw_g_of (lw_t7 (List.mem_of_getElem? (i := 0) (by decide +kernel))) rfl
theorem l_lw_48 : Cond.methodLink "GasTurnLaw" 48 m_mo_work.1 ∈ lw_g := lw_g_of (lw_t7 (List.mem_of_getElem? (i := 4) (by decide +kernel))) rfl
theorem l_mo_234 : Cond.methodLink "GasTurnModel" 234 m_mo_areaOf.1 ∈ lw_g := lw_g_of (lw_t7 (List.mem_of_getElem? (i := 8) (by decide +kernel))) rfl
theorem l_mo_226 : Cond.methodLink "GasTurnModel" 226 m_mo_all.1 ∈ lw_g := lw_g_of (lw_t7 (List.mem_of_getElem? (i := 12) (by decide +kernel))) rfl
theorem l_mo_230 : Cond.methodLink "GasTurnModel" 230 m_mo_reach.1 ∈ lw_g := lw_g_of (lw_t7 (List.mem_of_getElem? (i := 16) (by decide +kernel))) rfl
theorem l_mo_222 : Cond.methodLink "GasTurnModel" 222 m_mo_has.1 ∈ lw_g := lw_g_of (lw_t7 (List.mem_of_getElem? (i := 20) (by decide +kernel))) rfl
theorem l_mo_238 : Cond.methodLink "GasTurnModel" 238 m_mo_makeAt.1 ∈ lw_g := lw_g_of (lw_t7 (List.mem_of_getElem? (i := 23) (by decide +kernel))) rfl
theorem l_mo_241 : Cond.methodLink "GasTurnModel" 241 m_mo_useAt.1 ∈ lw_g := lw_g_of (lw_t7 (List.mem_of_getElem? (i := 27) (by decide +kernel))) rfl
theorem l_lw_52 : Cond.methodLink "GasTurnLaw" 52 m_mo_terminal.1 ∈ lw_g := lw_g_of (lw_t7 (List.mem_of_getElem? (i := 31) (by decide +kernel))) rfl
theorem l_lw_56 : Cond.methodLink "GasTurnLaw" 56 m_mo_gas.1 ∈ lw_g := lw_g_of (lw_t7 (List.mem_of_getElem? (i := 35) (by decide +kernel))) rfl
theorem l_mo_245 : Cond.methodLink "GasTurnModel" 245 m_mo_gasAt.1 ∈ lw_g := lw_g_of (lw_t7 (List.mem_of_getElem? (i := 39) (by decide +kernel))) rfl
theorem l_lw_60 : Cond.methodLink "GasTurnLaw" 60 m_mo_area.1 ∈ lw_g := lw_g_of (lw_t7 (List.mem_of_getElem? (i := 43) (by decide +kernel))) rfl
theorem l_lw_64 : Cond.methodLink "GasTurnLaw" 64 m_mo_pressure.1 ∈ lw_g := lw_g_of (lw_t7 (List.mem_of_getElem? (i := 47) (by decide +kernel))) rfl
theorem l_lw_68 : Cond.methodLink "GasTurnLaw" 68 m_mo_step.1 ∈ lw_g := lw_g_of (lw_t7 (List.mem_of_getElem? (i := 51) (by decide +kernel))) rfl
theorem l_lw_73 : Cond.methodLink "GasTurnLaw" 73 m_mo_model.1 ∈ lw_g := lw_g_of (lw_t7 (List.mem_of_getElem? (i := 55) (by decide +kernel))) rfl
theorem l_lw_78 : Cond.methodLink "GasTurnLaw" 78 m_mo_home.1 ∈ lw_g := lw_g_of (lw_t7 (List.mem_of_getElem? (i := 59) (by decide +kernel))) rfl
theorem l_mo_248 : Cond.methodLink "GasTurnModel" 248 m_mo_isModel.1 ∈ lw_g := lw_g_of (lw_t7 (List.mem_of_getElem? (i := 63) (by decide +kernel))) rfl
theorem l_lw_82 : Cond.methodLink "GasTurnLaw" 82 m_mo_survey.1 ∈ lw_g := lw_g_of (lw_t7 (List.mem_of_getElem? (i := 67) (by decide +kernel))) rfl
theorem l_mo_251 : Cond.methodLink "GasTurnModel" 251 m_mo_isHome.1 ∈ lw_g := lw_g_of (lw_t7 (List.mem_of_getElem? (i := 71) (by decide +kernel))) rfl
theorem l_lw_86 : Cond.methodLink "GasTurnLaw" 86 m_mo_lay.1 ∈ lw_g := lw_g_of (lw_t7 (List.mem_of_getElem? (i := 75) (by decide +kernel))) rfl
theorem l_mo_257 : Cond.methodLink "GasTurnModel" 257 m_mo_isSheet.1 ∈ lw_g := lw_g_of (lw_t7 (List.mem_of_getElem? (i := 79) (by decide +kernel))) rfl
theorem l_mo_260 : Cond.methodLink "GasTurnModel" 260 m_mo_survey.1 ∈ lw_g := lw_g_of (lw_t7 (List.mem_of_getElem? (i := 82) (by decide +kernel))) rfl
theorem l_lw_90 : Cond.methodLink "GasTurnLaw" 90 m_mo_known.1 ∈ lw_g := lw_g_of (lw_t7 (List.mem_of_getElem? (i := 83) (by decide +kernel))) rfl
theorem l_mo_264 : Cond.methodLink "GasTurnModel" 264 m_mo_knownOf.1 ∈ lw_g := lw_g_of (lw_t7 (List.mem_of_getElem? (i := 87) (by decide +kernel))) rfl
theorem l_lw_94 : Cond.methodLink "GasTurnLaw" 94 m_mo_need.1 ∈ lw_g := lw_g_of (lw_t7 (List.mem_of_getElem? (i := 91) (by decide +kernel))) rfl
theorem l_mo_267 : Cond.methodLink "GasTurnModel" 267 m_mo_isSector.1 ∈ lw_g := lw_g_of (lw_t7 (List.mem_of_getElem? (i := 95) (by decide +kernel))) rfl
theorem l_mo_270 : Cond.methodLink "GasTurnModel" 270 m_mo_needOf.1 ∈ lw_g := lw_g_of (lw_t7 (List.mem_of_getElem? (i := 99) (by decide +kernel))) rfl
theorem l_lw_98 : Cond.methodLink "GasTurnLaw" 98 m_mo_homeOf.1 ∈ lw_g := lw_g_of (lw_t7 (List.mem_of_getElem? (i := 103) (by decide +kernel))) rfl
theorem l_lw_102 : Cond.methodLink "GasTurnLaw" 102 m_mo_stock.1 ∈ lw_g := lw_g_of (lw_t7 (List.mem_of_getElem? (i := 107) (by decide +kernel))) rfl
theorem l_lw_106 : Cond.methodLink "GasTurnLaw" 106 m_mo_order.1 ∈ lw_g := lw_g_of (lw_t7 (List.mem_of_getElem? (i := 111) (by decide +kernel))) rfl
theorem l_lw_110 : Cond.methodLink "GasTurnLaw" 110 m_mo_sector.1 ∈ lw_g := lw_g_of (lw_t7 (List.mem_of_getElem? (i := 115) (by decide +kernel))) rfl
theorem l_lw_114 : Cond.methodLink "GasTurnLaw" 114 m_mo_why.1 ∈ lw_g := lw_g_of (lw_t7 (List.mem_of_getElem? (i := 119) (by decide +kernel))) rfl
theorem l_mo_295 : Cond.methodLink "GasTurnModel" 295 m_mo_whyNot.1 ∈ lw_g := lw_g_of (lw_t7 (List.mem_of_getElem? (i := 123) (by decide +kernel))) rfl
theorem l_mo_286 : Cond.methodLink "GasTurnModel" 286 m_mo_done.1 ∈ lw_g := lw_g_of (lw_t7 (List.mem_of_getElem? (i := 127) (by decide +kernel))) rfl
theorem l_mo_289 : Cond.methodLink "GasTurnModel" 289 m_mo_hinders.1 ∈ lw_g := lw_g_of (lw_t7 (List.mem_of_getElem? (i := 131) (by decide +kernel))) rfl
theorem l_mo_280 : Cond.methodLink "GasTurnModel" 280 m_mo_isBorder.1 ∈ lw_g := lw_g_of (lw_t7 (List.mem_of_getElem? (i := 135) (by decide +kernel))) rfl
theorem l_mo_292 : Cond.methodLink "GasTurnModel" 292 m_mo_isBarred.1 ∈ lw_g := lw_g_of (lw_t7 (List.mem_of_getElem? (i := 139) (by decide +kernel))) rfl
theorem l_lw_118 : Cond.methodLink "GasTurnLaw" 118 m_mo_best.1 ∈ lw_g := lw_g_of (lw_t7 (List.mem_of_getElem? (i := 143) (by decide +kernel))) rfl
theorem l_mo_304 : Cond.methodLink "GasTurnModel" 304 m_mo_onWith.1 ∈ lw_g := lw_g_of (lw_t7 (List.mem_of_getElem? (i := 147) (by decide +kernel))) rfl
theorem l_mo_298 : Cond.methodLink "GasTurnModel" 298 m_mo_knotsOf.1 ∈ lw_g := lw_g_of (lw_t7 (List.mem_of_getElem? (i := 151) (by decide +kernel))) rfl
theorem l_mo_301 : Cond.methodLink "GasTurnModel" 301 m_mo_borders.1 ∈ lw_g := lw_g_of (lw_t7 (List.mem_of_getElem? (i := 155) (by decide +kernel))) rfl
theorem l_lw_122 : Cond.methodLink "GasTurnLaw" 122 m_mo_bestAt.1 ∈ lw_g := lw_g_of (lw_t7 (List.mem_of_getElem? (i := 159) (by decide +kernel))) rfl
theorem l_lw_126 : Cond.methodLink "GasTurnLaw" 126 m_mo_plan.1 ∈ lw_g := lw_g_of (lw_t7 (List.mem_of_getElem? (i := 163) (by decide +kernel))) rfl
theorem l_mo_313 : Cond.methodLink "GasTurnModel" 313 m_mo_placeInPlan.1 ∈ lw_g := lw_g_of (lw_t7 (List.mem_of_getElem? (i := 167) (by decide +kernel))) rfl
theorem l_lw_130 : Cond.methodLink "GasTurnLaw" 130 m_mo_unplan.1 ∈ lw_g := lw_g_of (lw_t7 (List.mem_of_getElem? (i := 171) (by decide +kernel))) rfl
theorem l_lw_134 : Cond.methodLink "GasTurnLaw" 134 m_mo_shortOf.1 ∈ lw_g := lw_g_of (lw_t7 (List.mem_of_getElem? (i := 175) (by decide +kernel))) rfl
theorem l_lw_138 : Cond.methodLink "GasTurnLaw" 138 m_mo_fitter.1 ∈ lw_g := lw_g_of (lw_t7 (List.mem_of_getElem? (i := 179) (by decide +kernel))) rfl
theorem l_lw_142 : Cond.methodLink "GasTurnLaw" 142 m_mo_change.1 ∈ lw_g := lw_g_of (lw_t7 (List.mem_of_getElem? (i := 183) (by decide +kernel))) rfl
theorem l_mo_323 : Cond.methodLink "GasTurnModel" 323 m_mo_fits.1 ∈ lw_g := lw_g_of (lw_t7 (List.mem_of_getElem? (i := 187) (by decide +kernel))) rfl
theorem l_mo_316 : Cond.methodLink "GasTurnModel" 316 m_mo_canFit.1 ∈ lw_g := lw_g_of (lw_t7 (List.mem_of_getElem? (i := 191) (by decide +kernel))) rfl
theorem l_mo_319 : Cond.methodLink "GasTurnModel" 319 m_mo_changes.1 ∈ lw_g := lw_g_of (lw_t7 (List.mem_of_getElem? (i := 195) (by decide +kernel))) rfl
theorem l_mo_327 : Cond.methodLink "GasTurnModel" 327 m_mo_ends.1 ∈ lw_g := lw_g_of (lw_t7 (List.mem_of_getElem? (i := 199) (by decide +kernel))) rfl
theorem l_mo_330 : Cond.methodLink "GasTurnModel" 330 m_mo_burn.1 ∈ lw_g := lw_g_of (lw_t7 (List.mem_of_getElem? (i := 203) (by decide +kernel))) rfl
theorem l_lw_146 : Cond.methodLink "GasTurnLaw" 146 m_mo_week.1 ∈ lw_g := lw_g_of (lw_t7 (List.mem_of_getElem? (i := 207) (by decide +kernel))) rfl
theorem l_lw_150 : Cond.methodLink "GasTurnLaw" 150 m_mo_later.1 ∈ lw_g := lw_g_of (lw_t7 (List.mem_of_getElem? (i := 211) (by decide +kernel))) rfl
theorem l_mo_334 : Cond.methodLink "GasTurnModel" 334 m_mo_isFitter.1 ∈ lw_g := lw_g_of (lw_t7 (List.mem_of_getElem? (i := 215) (by decide +kernel))) rfl
theorem l_lw_154 : Cond.methodLink "GasTurnLaw" 154 m_mo_danger.1 ∈ lw_g := lw_g_of (lw_t7 (List.mem_of_getElem? (i := 219) (by decide +kernel))) rfl
theorem l_lw_158 : Cond.methodLink "GasTurnLaw" 158 m_mo_smell.1 ∈ lw_g := lw_g_of (lw_t7 (List.mem_of_getElem? (i := 223) (by decide +kernel))) rfl
theorem l_mo_340 : Cond.methodLink "GasTurnModel" 340 m_mo_far.1 ∈ lw_g := lw_g_of (lw_t7 (List.mem_of_getElem? (i := 227) (by decide +kernel))) rfl
theorem l_lw_162 : Cond.methodLink "GasTurnLaw" 162 m_mo_smellOf.1 ∈ lw_g := lw_g_of (lw_t7 (List.mem_of_getElem? (i := 231) (by decide +kernel))) rfl
theorem l_lw_166 : Cond.methodLink "GasTurnLaw" 166 m_mo_limit.1 ∈ lw_g := lw_g_of (lw_t7 (List.mem_of_getElem? (i := 235) (by decide +kernel))) rfl
theorem l_lw_170 : Cond.methodLink "GasTurnLaw" 170 m_mo_fault.1 ∈ lw_g := lw_g_of (lw_t7 (List.mem_of_getElem? (i := 239) (by decide +kernel))) rfl
theorem l_lw_174 : Cond.methodLink "GasTurnLaw" 174 m_mo_beyond.1 ∈ lw_g := lw_g_of (lw_t8 (List.mem_of_getElem? (i := 3) (by decide +kernel))) rfl
theorem l_mo_346 : Cond.methodLink "GasTurnModel" 346 m_mo_reckons.1 ∈ lw_g := lw_g_of (lw_t8 (List.mem_of_getElem? (i := 7) (by decide +kernel))) rfl
theorem l_lw_178 : Cond.methodLink "GasTurnLaw" 178 m_mo_feed.1 ∈ lw_g := lw_g_of (lw_t8 (List.mem_of_getElem? (i := 12) (by decide +kernel))) rfl
theorem l_lw_182 : Cond.methodLink "GasTurnLaw" 182 m_mo_law.1 ∈ lw_g := lw_g_of (lw_t8 (List.mem_of_getElem? (i := 16) (by decide +kernel))) rfl
theorem l_mo_357 : Cond.methodLink "GasTurnModel" 357 m_mo_byteAt.1 ∈ lw_g := lw_g_of (lw_t8 (List.mem_of_getElem? (i := 20) (by decide +kernel))) rfl
theorem l_mo_367 : Cond.methodLink "GasTurnModel" 367 m_mo_reads.1 ∈ lw_g := lw_g_of (lw_t8 (List.mem_of_getElem? (i := 24) (by decide +kernel))) rfl
theorem l_mo_364 : Cond.methodLink "GasTurnModel" 364 m_mo_readsNumber.1 ∈ lw_g := lw_g_of (lw_t8 (List.mem_of_getElem? (i := 28) (by decide +kernel))) rfl
theorem l_lw_186 : Cond.methodLink "GasTurnLaw" 186 m_mo_bill.1 ∈ lw_g := lw_g_of (lw_t8 (List.mem_of_getElem? (i := 32) (by decide +kernel))) rfl
theorem l_lw_190 : Cond.methodLink "GasTurnLaw" 190 m_mo_act.1 ∈ lw_g := lw_g_of (lw_t8 (List.mem_of_getElem? (i := 36) (by decide +kernel))) rfl
theorem l_mo_379 : Cond.methodLink "GasTurnModel" 379 m_mo_burns.1 ∈ lw_g := lw_g_of (lw_t8 (List.mem_of_getElem? (i := 40) (by decide +kernel))) rfl
theorem l_mo_373 : Cond.methodLink "GasTurnModel" 373 m_mo_body.1 ∈ lw_g := lw_g_of (lw_t8 (List.mem_of_getElem? (i := 44) (by decide +kernel))) rfl
theorem l_mo_376 : Cond.methodLink "GasTurnModel" 376 m_mo_burnsRing.1 ∈ lw_g := lw_g_of (lw_t8 (List.mem_of_getElem? (i := 48) (by decide +kernel))) rfl
theorem l_mo_385 : Cond.methodLink "GasTurnModel" 385 m_mo_warms.1 ∈ lw_g := lw_g_of (lw_t8 (List.mem_of_getElem? (i := 52) (by decide +kernel))) rfl
theorem l_mo_382 : Cond.methodLink "GasTurnModel" 382 m_mo_warmsRing.1 ∈ lw_g := lw_g_of (lw_t8 (List.mem_of_getElem? (i := 56) (by decide +kernel))) rfl
theorem l_mo_391 : Cond.methodLink "GasTurnModel" 391 m_mo_fitsBody.1 ∈ lw_g := lw_g_of (lw_t8 (List.mem_of_getElem? (i := 60) (by decide +kernel))) rfl
theorem l_mo_388 : Cond.methodLink "GasTurnModel" 388 m_mo_fitsRing.1 ∈ lw_g := lw_g_of (lw_t8 (List.mem_of_getElem? (i := 64) (by decide +kernel))) rfl
theorem l_lw_194 : Cond.methodLink "GasTurnLaw" 194 m_mo_trace.1 ∈ lw_g := lw_g_of (lw_t8 (List.mem_of_getElem? (i := 68) (by decide +kernel))) rfl
theorem l_lw_198 : Cond.methodLink "GasTurnLaw" 198 m_mo_taken.1 ∈ lw_g := lw_g_of (lw_t8 (List.mem_of_getElem? (i := 72) (by decide +kernel))) rfl
theorem l_lw_202 : Cond.methodLink "GasTurnLaw" 202 m_mo_count.1 ∈ lw_g := lw_g_of (lw_t8 (List.mem_of_getElem? (i := 76) (by decide +kernel))) rfl
theorem l_lw_206 : Cond.methodLink "GasTurnLaw" 206 m_mo_sheet.1 ∈ lw_g := lw_g_of (lw_t8 (List.mem_of_getElem? (i := 80) (by decide +kernel))) rfl
theorem l_lw_210 : Cond.methodLink "GasTurnLaw" 210 m_mo_cell.1 ∈ lw_g := lw_g_of (lw_t8 (List.mem_of_getElem? (i := 84) (by decide +kernel))) rfl
theorem l_lw_214 : Cond.methodLink "GasTurnLaw" 214 m_mo_copy.1 ∈ lw_g := lw_g_of (lw_t8 (List.mem_of_getElem? (i := 88) (by decide +kernel))) rfl
theorem l_ga_9 : Cond.methodLinkNest "GasTurn" 9 m_ne_init.1 "GasTurn" ∈ lw_n := List.mem_filter.mpr ⟨(lw_t1 (List.mem_of_getElem? (i := 32) (by decide +kernel))), rfl⟩
theorem l_ga_22 : Cond.methodLinkNest "GasTurn" 22 m_tr_init.1 "GasTurn" ∈ lw_n := List.mem_filter.mpr ⟨(lw_t1 (List.mem_of_getElem? (i := 97) (by decide +kernel))), rfl⟩
theorem l_ga_68 : Cond.methodLinkNest "GasTurn" 68 m_du_init.1 "GasTurn" ∈ lw_n := List.mem_filter.mpr ⟨(lw_t1 (List.mem_of_getElem? (i := 166) (by decide +kernel))), rfl⟩
theorem l_ga_75 : Cond.methodLinkNest "GasTurn" 75 m_la_init.1 "GasTurn" ∈ lw_n := List.mem_filter.mpr ⟨(lw_t1 (List.mem_of_getElem? (i := 214) (by decide +kernel))), rfl⟩
theorem l_ga_82 : Cond.methodLinkNest "GasTurn" 82 m_sh_init.1 "GasTurn" ∈ lw_n := List.mem_filter.mpr ⟨(lw_t2 (List.mem_of_getElem? (i := 10) (by decide +kernel))), rfl⟩
theorem l_ne_50 : Cond.methodLinkNest "GasTurn$Net" 50 m_ga_isWithin.1 "GasTurn" ∈ lw_n := List.mem_filter.mpr ⟨(lw_t2 (List.mem_of_getElem? (i := 102) (by decide +kernel))), rfl⟩
theorem l_ne_66 : Cond.methodLinkNest "GasTurn$Net" 66 m_ga_lowestIn.1 "GasTurn" ∈ lw_n := List.mem_filter.mpr ⟨(lw_t2 (List.mem_of_getElem? (i := 175) (by decide +kernel))), rfl⟩
theorem l_ne_81 : Cond.methodLinkNest "GasTurn$Net" 81 m_ga_hasBit.1 "GasTurn" ∈ lw_n := List.mem_filter.mpr ⟨(lw_t2 (List.mem_of_getElem? (i := 188) (by decide +kernel))), rfl⟩
theorem l_sh_23 : Cond.methodLinkNest "GasTurn$Sheets" 23 m_ga_isWithin.1 "GasTurn" ∈ lw_n := List.mem_filter.mpr ⟨(lw_t3 (List.mem_of_getElem? (i := 160) (by decide +kernel))), rfl⟩
theorem l_se_41 : Cond.methodLinkNest "GasTurn$Sectors" 41 m_ga_isWithin.1 "GasTurn" ∈ lw_n := List.mem_filter.mpr ⟨(lw_t3 (List.mem_of_getElem? (i := 185) (by decide +kernel))), rfl⟩
theorem l_se_48 : Cond.methodLinkNest "GasTurn$Sectors" 48 m_ga_hasBit.1 "GasTurn" ∈ lw_n := List.mem_filter.mpr ⟨(lw_t3 (List.mem_of_getElem? (i := 233) (by decide +kernel))), rfl⟩
theorem l_se_81 : Cond.methodLinkNest "GasTurn$Sectors" 81 m_ga_lowestIn.1 "GasTurn" ∈ lw_n := List.mem_filter.mpr ⟨(lw_t4 (List.mem_of_getElem? (i := 37) (by decide +kernel))), rfl⟩
theorem l_la_79 : Cond.methodLinkNest "GasTurn$Laws" 79 m_ga_isWithin.1 "GasTurn" ∈ lw_n := List.mem_filter.mpr ⟨(lw_t4 (List.mem_of_getElem? (i := 47) (by decide +kernel))), rfl⟩
theorem l_du_50 : Cond.methodLinkNest "GasTurn$Duty" 50 m_ga_hasBit.1 "GasTurn" ∈ lw_n := List.mem_filter.mpr ⟨(lw_t4 (List.mem_of_getElem? (i := 141) (by decide +kernel))), rfl⟩
theorem l_du_43 : Cond.methodLinkNest "GasTurn$Duty" 43 m_ga_isWithin.1 "GasTurn" ∈ lw_n := List.mem_filter.mpr ⟨(lw_t4 (List.mem_of_getElem? (i := 178) (by decide +kernel))), rfl⟩
theorem f_ne_47 : gp_fl "GasTurn$Net" 47 5 0 := ⟨by decide, "GasTurn$Net", lw_g_of (lw_t1 (List.mem_of_getElem? (i := 36) (by decide +kernel))) rfl, Or.inl rfl⟩
theorem f_ga_87 : gp_fl "GasTurn" 87 5 0 := ⟨by decide, "GasTurn$Net", lw_g_of (lw_t1 (List.mem_of_getElem? (i := 37) (by decide +kernel))) rfl, Or.inl rfl⟩
theorem f_se_94 : gp_fl "GasTurn$Sectors" 94 5 0 := ⟨by decide, "GasTurn$Net", lw_g_of (lw_t1 (List.mem_of_getElem? (i := 38) (by decide +kernel))) rfl, Or.inl rfl⟩
theorem f_ne_54 : gp_fl "GasTurn$Net" 54 5 1 := ⟨by decide, "GasTurn$Net", lw_g_of (lw_t1 (List.mem_of_getElem? (i := 39) (by decide +kernel))) rfl, Or.inl rfl⟩
theorem f_ga_98 : gp_fl "GasTurn" 98 5 1 := ⟨by decide, "GasTurn$Net", lw_g_of (lw_t1 (List.mem_of_getElem? (i := 40) (by decide +kernel))) rfl, Or.inl rfl⟩
theorem f_ne_9 : gp_fl "GasTurn$Net" 9 5 2 := ⟨by decide, "GasTurn$Net", lw_g_of (lw_t1 (List.mem_of_getElem? (i := 41) (by decide +kernel))) rfl, Or.inl rfl⟩
theorem f_ga_122 : gp_fl "GasTurn" 122 5 2 := ⟨by decide, "GasTurn$Net", lw_g_of (lw_t1 (List.mem_of_getElem? (i := 42) (by decide +kernel))) rfl, Or.inl rfl⟩
theorem f_ne_15 : gp_fl "GasTurn$Net" 15 5 3 := ⟨by decide, "GasTurn$Net", lw_g_of (lw_t1 (List.mem_of_getElem? (i := 43) (by decide +kernel))) rfl, Or.inl rfl⟩
theorem f_ga_125 : gp_fl "GasTurn" 125 5 3 := ⟨by decide, "GasTurn$Net", lw_g_of (lw_t1 (List.mem_of_getElem? (i := 44) (by decide +kernel))) rfl, Or.inl rfl⟩
theorem f_ne_18 : gp_fl "GasTurn$Net" 18 5 4 := ⟨by decide, "GasTurn$Net", lw_g_of (lw_t1 (List.mem_of_getElem? (i := 45) (by decide +kernel))) rfl, Or.inl rfl⟩
theorem f_ga_108 : gp_fl "GasTurn" 108 5 4 := ⟨by decide, "GasTurn$Net", lw_g_of (lw_t1 (List.mem_of_getElem? (i := 46) (by decide +kernel))) rfl, Or.inl rfl⟩
theorem f_ne_22 : gp_fl "GasTurn$Net" 22 5 5 := ⟨by decide, "GasTurn$Net", lw_g_of (lw_t1 (List.mem_of_getElem? (i := 47) (by decide +kernel))) rfl, Or.inl rfl⟩
theorem f_ga_112 : gp_fl "GasTurn" 112 5 5 := ⟨by decide, "GasTurn$Net", lw_g_of (lw_t1 (List.mem_of_getElem? (i := 48) (by decide +kernel))) rfl, Or.inl rfl⟩
theorem f_ne_25 : gp_fl "GasTurn$Net" 25 5 6 := ⟨by decide, "GasTurn$Net", lw_g_of (lw_t1 (List.mem_of_getElem? (i := 49) (by decide +kernel))) rfl, Or.inl rfl⟩
theorem f_se_84 : gp_fl "GasTurn$Sectors" 84 5 6 := ⟨by decide, "GasTurn$Net", lw_g_of (lw_t1 (List.mem_of_getElem? (i := 50) (by decide +kernel))) rfl, Or.inl rfl⟩
theorem f_ne_28 : gp_fl "GasTurn$Net" 28 5 7 := ⟨by decide, "GasTurn$Net", lw_g_of (lw_t1 (List.mem_of_getElem? (i := 51) (by decide +kernel))) rfl, Or.inl rfl⟩
theorem f_ne_31 : gp_fl "GasTurn$Net" 31 5 8 := ⟨by decide, "GasTurn$Net", lw_g_of (lw_t1 (List.mem_of_getElem? (i := 52) (by decide +kernel))) rfl, Or.inl rfl⟩
theorem f_ga_157 : gp_fl "GasTurn" 157 5 8 := ⟨by decide, "GasTurn$Net", lw_g_of (lw_t1 (List.mem_of_getElem? (i := 53) (by decide +kernel))) rfl, Or.inl rfl⟩
theorem f_ne_57 : gp_fl "GasTurn$Net" 57 5 9 := ⟨by decide, "GasTurn$Net", lw_g_of (lw_t1 (List.mem_of_getElem? (i := 54) (by decide +kernel))) rfl, Or.inl rfl⟩
theorem f_ga_132 : gp_fl "GasTurn" 132 5 9 := ⟨by decide, "GasTurn$Net", lw_g_of (lw_t1 (List.mem_of_getElem? (i := 55) (by decide +kernel))) rfl, Or.inl rfl⟩
theorem f_ne_35 : gp_fl "GasTurn$Net" 35 5 10 := ⟨by decide, "GasTurn$Net", lw_g_of (lw_t1 (List.mem_of_getElem? (i := 56) (by decide +kernel))) rfl, Or.inl rfl⟩
theorem f_ga_145 : gp_fl "GasTurn" 145 5 10 := ⟨by decide, "GasTurn$Net", lw_g_of (lw_t1 (List.mem_of_getElem? (i := 57) (by decide +kernel))) rfl, Or.inl rfl⟩
theorem f_ne_38 : gp_fl "GasTurn$Net" 38 5 11 := ⟨by decide, "GasTurn$Net", lw_g_of (lw_t1 (List.mem_of_getElem? (i := 58) (by decide +kernel))) rfl, Or.inl rfl⟩
theorem f_ga_148 : gp_fl "GasTurn" 148 5 11 := ⟨by decide, "GasTurn$Net", lw_g_of (lw_t1 (List.mem_of_getElem? (i := 59) (by decide +kernel))) rfl, Or.inl rfl⟩
theorem f_ne_41 : gp_fl "GasTurn$Net" 41 5 12 := ⟨by decide, "GasTurn$Net", lw_g_of (lw_t1 (List.mem_of_getElem? (i := 60) (by decide +kernel))) rfl, Or.inl rfl⟩
theorem f_ga_151 : gp_fl "GasTurn" 151 5 12 := ⟨by decide, "GasTurn$Net", lw_g_of (lw_t1 (List.mem_of_getElem? (i := 61) (by decide +kernel))) rfl, Or.inl rfl⟩
theorem f_ne_44 : gp_fl "GasTurn$Net" 44 5 13 := ⟨by decide, "GasTurn$Net", lw_g_of (lw_t1 (List.mem_of_getElem? (i := 62) (by decide +kernel))) rfl, Or.inl rfl⟩
theorem f_ga_142 : gp_fl "GasTurn" 142 5 13 := ⟨by decide, "GasTurn$Net", lw_g_of (lw_t1 (List.mem_of_getElem? (i := 63) (by decide +kernel))) rfl, Or.inl rfl⟩
theorem f_tr_9 : gp_fl "GasTurn$Trace" 9 10 0 := ⟨by decide, "GasTurn$Trace", lw_g_of (lw_t1 (List.mem_of_getElem? (i := 101) (by decide +kernel))) rfl, Or.inl rfl⟩
theorem f_ga_445 : gp_fl "GasTurn" 445 10 0 := ⟨by decide, "GasTurn$Trace", lw_g_of (lw_t1 (List.mem_of_getElem? (i := 102) (by decide +kernel))) rfl, Or.inl rfl⟩
theorem f_tr_15 : gp_fl "GasTurn$Trace" 15 10 1 := ⟨by decide, "GasTurn$Trace", lw_g_of (lw_t1 (List.mem_of_getElem? (i := 103) (by decide +kernel))) rfl, Or.inl rfl⟩
theorem f_ga_428 : gp_fl "GasTurn" 428 10 1 := ⟨by decide, "GasTurn$Trace", lw_g_of (lw_t1 (List.mem_of_getElem? (i := 104) (by decide +kernel))) rfl, Or.inl rfl⟩
theorem f_se_33 : gp_fl "GasTurn$Sectors" 33 8 0 := ⟨by decide, "GasTurn$Sectors", lw_g_of (lw_t1 (List.mem_of_getElem? (i := 120) (by decide +kernel))) rfl, Or.inl rfl⟩
theorem f_se_37 : gp_fl "GasTurn$Sectors" 37 8 1 := ⟨by decide, "GasTurn$Sectors", lw_g_of (lw_t1 (List.mem_of_getElem? (i := 121) (by decide +kernel))) rfl, Or.inl rfl⟩
theorem f_ga_280 : gp_fl "GasTurn" 280 8 1 := ⟨by decide, "GasTurn$Sectors", lw_g_of (lw_t1 (List.mem_of_getElem? (i := 122) (by decide +kernel))) rfl, Or.inl rfl⟩
theorem f_se_9 : gp_fl "GasTurn$Sectors" 9 8 2 := ⟨by decide, "GasTurn$Sectors", lw_g_of (lw_t1 (List.mem_of_getElem? (i := 123) (by decide +kernel))) rfl, Or.inl rfl⟩
theorem f_ga_233 : gp_fl "GasTurn" 233 8 2 := ⟨by decide, "GasTurn$Sectors", lw_g_of (lw_t1 (List.mem_of_getElem? (i := 124) (by decide +kernel))) rfl, Or.inl rfl⟩
theorem f_se_45 : gp_fl "GasTurn$Sectors" 45 8 3 := ⟨by decide, "GasTurn$Sectors", lw_g_of (lw_t1 (List.mem_of_getElem? (i := 125) (by decide +kernel))) rfl, Or.inl rfl⟩
theorem f_se_56 : gp_fl "GasTurn$Sectors" 56 8 4 := ⟨by decide, "GasTurn$Sectors", lw_g_of (lw_t1 (List.mem_of_getElem? (i := 126) (by decide +kernel))) rfl, Or.inl rfl⟩
theorem f_ga_307 : gp_fl "GasTurn" 307 8 4 := ⟨by decide, "GasTurn$Sectors", lw_g_of (lw_t1 (List.mem_of_getElem? (i := 127) (by decide +kernel))) rfl, Or.inl rfl⟩
theorem f_se_15 : gp_fl "GasTurn$Sectors" 15 8 5 := ⟨by decide, "GasTurn$Sectors", lw_g_of (lw_t1 (List.mem_of_getElem? (i := 128) (by decide +kernel))) rfl, Or.inl rfl⟩
theorem f_ga_310 : gp_fl "GasTurn" 310 8 5 := ⟨by decide, "GasTurn$Sectors", lw_g_of (lw_t1 (List.mem_of_getElem? (i := 129) (by decide +kernel))) rfl, Or.inl rfl⟩
theorem f_se_114 : gp_fl "GasTurn$Sectors" 114 8 6 := ⟨by decide, "GasTurn$Sectors", lw_g_of (lw_t1 (List.mem_of_getElem? (i := 130) (by decide +kernel))) rfl, Or.inl rfl⟩
theorem f_ga_292 : gp_fl "GasTurn" 292 8 6 := ⟨by decide, "GasTurn$Sectors", lw_g_of (lw_t1 (List.mem_of_getElem? (i := 131) (by decide +kernel))) rfl, Or.inl rfl⟩
theorem f_se_18 : gp_fl "GasTurn$Sectors" 18 8 7 := ⟨by decide, "GasTurn$Sectors", lw_g_of (lw_t1 (List.mem_of_getElem? (i := 132) (by decide +kernel))) rfl, Or.inl rfl⟩
theorem f_ga_295 : gp_fl "GasTurn" 295 8 7 := ⟨by decide, "GasTurn$Sectors", lw_g_of (lw_t1 (List.mem_of_getElem? (i := 133) (by decide +kernel))) rfl, Or.inl rfl⟩
theorem f_se_21 : gp_fl "GasTurn$Sectors" 21 8 8 := ⟨by decide, "GasTurn$Sectors", lw_g_of (lw_t1 (List.mem_of_getElem? (i := 134) (by decide +kernel))) rfl, Or.inl rfl⟩
theorem f_ga_514 : gp_fl "GasTurn" 514 8 8 := ⟨by decide, "GasTurn$Sectors", lw_g_of (lw_t1 (List.mem_of_getElem? (i := 135) (by decide +kernel))) rfl, Or.inl rfl⟩
theorem f_se_24 : gp_fl "GasTurn$Sectors" 24 8 9 := ⟨by decide, "GasTurn$Sectors", lw_g_of (lw_t1 (List.mem_of_getElem? (i := 136) (by decide +kernel))) rfl, Or.inl rfl⟩
theorem f_se_27 : gp_fl "GasTurn$Sectors" 27 8 10 := ⟨by decide, "GasTurn$Sectors", lw_g_of (lw_t1 (List.mem_of_getElem? (i := 137) (by decide +kernel))) rfl, Or.inl rfl⟩
theorem f_se_30 : gp_fl "GasTurn$Sectors" 30 8 11 := ⟨by decide, "GasTurn$Sectors", lw_g_of (lw_t1 (List.mem_of_getElem? (i := 138) (by decide +kernel))) rfl, Or.inl rfl⟩
theorem f_du_40 : gp_fl "GasTurn$Duty" 40 0 0 := ⟨by decide, "GasTurn$Duty", lw_g_of (lw_t1 (List.mem_of_getElem? (i := 170) (by decide +kernel))) rfl, Or.inl rfl⟩
theorem f_ga_320 : gp_fl "GasTurn" 320 0 0 := ⟨by decide, "GasTurn$Duty", lw_g_of (lw_t1 (List.mem_of_getElem? (i := 171) (by decide +kernel))) rfl, Or.inl rfl⟩
theorem f_du_9 : gp_fl "GasTurn$Duty" 9 0 1 := ⟨by decide, "GasTurn$Duty", lw_g_of (lw_t1 (List.mem_of_getElem? (i := 172) (by decide +kernel))) rfl, Or.inl rfl⟩
theorem f_du_15 : gp_fl "GasTurn$Duty" 15 0 2 := ⟨by decide, "GasTurn$Duty", lw_g_of (lw_t1 (List.mem_of_getElem? (i := 173) (by decide +kernel))) rfl, Or.inl rfl⟩
theorem f_ga_526 : gp_fl "GasTurn" 526 0 2 := ⟨by decide, "GasTurn$Duty", lw_g_of (lw_t1 (List.mem_of_getElem? (i := 174) (by decide +kernel))) rfl, Or.inl rfl⟩
theorem f_du_18 : gp_fl "GasTurn$Duty" 18 0 3 := ⟨by decide, "GasTurn$Duty", lw_g_of (lw_t1 (List.mem_of_getElem? (i := 175) (by decide +kernel))) rfl, Or.inl rfl⟩
theorem f_du_21 : gp_fl "GasTurn$Duty" 21 0 4 := ⟨by decide, "GasTurn$Duty", lw_g_of (lw_t1 (List.mem_of_getElem? (i := 176) (by decide +kernel))) rfl, Or.inl rfl⟩
theorem f_du_47 : gp_fl "GasTurn$Duty" 47 0 5 := ⟨by decide, "GasTurn$Duty", lw_g_of (lw_t1 (List.mem_of_getElem? (i := 177) (by decide +kernel))) rfl, Or.inl rfl⟩
theorem f_ga_375 : gp_fl "GasTurn" 375 0 5 := ⟨by decide, "GasTurn$Duty", lw_g_of (lw_t1 (List.mem_of_getElem? (i := 178) (by decide +kernel))) rfl, Or.inl rfl⟩
theorem f_du_24 : gp_fl "GasTurn$Duty" 24 0 6 := ⟨by decide, "GasTurn$Duty", lw_g_of (lw_t1 (List.mem_of_getElem? (i := 179) (by decide +kernel))) rfl, Or.inl rfl⟩
theorem f_ga_385 : gp_fl "GasTurn" 385 0 6 := ⟨by decide, "GasTurn$Duty", lw_g_of (lw_t1 (List.mem_of_getElem? (i := 180) (by decide +kernel))) rfl, Or.inl rfl⟩
theorem f_du_27 : gp_fl "GasTurn$Duty" 27 0 7 := ⟨by decide, "GasTurn$Duty", lw_g_of (lw_t1 (List.mem_of_getElem? (i := 181) (by decide +kernel))) rfl, Or.inl rfl⟩
theorem f_ga_388 : gp_fl "GasTurn" 388 0 7 := ⟨by decide, "GasTurn$Duty", lw_g_of (lw_t1 (List.mem_of_getElem? (i := 182) (by decide +kernel))) rfl, Or.inl rfl⟩
theorem f_du_30 : gp_fl "GasTurn$Duty" 30 0 8 := ⟨by decide, "GasTurn$Duty", lw_g_of (lw_t1 (List.mem_of_getElem? (i := 183) (by decide +kernel))) rfl, Or.inl rfl⟩
theorem f_ga_391 : gp_fl "GasTurn" 391 0 8 := ⟨by decide, "GasTurn$Duty", lw_g_of (lw_t1 (List.mem_of_getElem? (i := 184) (by decide +kernel))) rfl, Or.inl rfl⟩
theorem f_du_33 : gp_fl "GasTurn$Duty" 33 0 9 := ⟨by decide, "GasTurn$Duty", lw_g_of (lw_t1 (List.mem_of_getElem? (i := 185) (by decide +kernel))) rfl, Or.inl rfl⟩
theorem f_ga_394 : gp_fl "GasTurn" 394 0 9 := ⟨by decide, "GasTurn$Duty", lw_g_of (lw_t1 (List.mem_of_getElem? (i := 186) (by decide +kernel))) rfl, Or.inl rfl⟩
theorem f_du_36 : gp_fl "GasTurn$Duty" 36 0 10 := ⟨by decide, "GasTurn$Duty", lw_g_of (lw_t1 (List.mem_of_getElem? (i := 187) (by decide +kernel))) rfl, Or.inl rfl⟩
theorem f_ga_400 : gp_fl "GasTurn" 400 0 10 := ⟨by decide, "GasTurn$Duty", lw_g_of (lw_t1 (List.mem_of_getElem? (i := 188) (by decide +kernel))) rfl, Or.inl rfl⟩
theorem f_la_34 : gp_fl "GasTurn$Laws" 34 4 0 := ⟨by decide, "GasTurn$Laws", lw_g_of (lw_t1 (List.mem_of_getElem? (i := 218) (by decide +kernel))) rfl, Or.inl rfl⟩
theorem f_ga_415 : gp_fl "GasTurn" 415 4 0 := ⟨by decide, "GasTurn$Laws", lw_g_of (lw_t1 (List.mem_of_getElem? (i := 219) (by decide +kernel))) rfl, Or.inl rfl⟩
theorem f_la_9 : gp_fl "GasTurn$Laws" 9 4 1 := ⟨by decide, "GasTurn$Laws", lw_g_of (lw_t1 (List.mem_of_getElem? (i := 220) (by decide +kernel))) rfl, Or.inl rfl⟩
theorem f_la_56 : gp_fl "GasTurn$Laws" 56 4 2 := ⟨by decide, "GasTurn$Laws", lw_g_of (lw_t1 (List.mem_of_getElem? (i := 221) (by decide +kernel))) rfl, Or.inl rfl⟩
theorem f_ga_421 : gp_fl "GasTurn" 421 4 2 := ⟨by decide, "GasTurn$Laws", lw_g_of (lw_t1 (List.mem_of_getElem? (i := 222) (by decide +kernel))) rfl, Or.inl rfl⟩
theorem f_la_15 : gp_fl "GasTurn$Laws" 15 4 3 := ⟨by decide, "GasTurn$Laws", lw_g_of (lw_t1 (List.mem_of_getElem? (i := 223) (by decide +kernel))) rfl, Or.inl rfl⟩
theorem f_la_19 : gp_fl "GasTurn$Laws" 19 4 4 := ⟨by decide, "GasTurn$Laws", lw_g_of (lw_t1 (List.mem_of_getElem? (i := 224) (by decide +kernel))) rfl, Or.inl rfl⟩
theorem f_la_22 : gp_fl "GasTurn$Laws" 22 4 5 := ⟨by decide, "GasTurn$Laws", lw_g_of (lw_t1 (List.mem_of_getElem? (i := 225) (by decide +kernel))) rfl, Or.inl rfl⟩
theorem f_la_25 : gp_fl "GasTurn$Laws" 25 4 6 := ⟨by decide, "GasTurn$Laws", lw_g_of (lw_t1 (List.mem_of_getElem? (i := 226) (by decide +kernel))) rfl, Or.inl rfl⟩
theorem f_la_28 : gp_fl "GasTurn$Laws" 28 4 7 := ⟨by decide, "GasTurn$Laws", lw_g_of (lw_t1 (List.mem_of_getElem? (i := 227) (by decide +kernel))) rfl, Or.inl rfl⟩
theorem f_la_31 : gp_fl "GasTurn$Laws" 31 4 8 := ⟨by decide, "GasTurn$Laws", lw_g_of (lw_t1 (List.mem_of_getElem? (i := 228) (by decide +kernel))) rfl, Or.inl rfl⟩
theorem f_sh_11 : gp_fl "GasTurn$Sheets" 11 9 0 := ⟨by decide, "GasTurn$Sheets", lw_g_of (lw_t2 (List.mem_of_getElem? (i := 16) (by decide +kernel))) rfl, Or.inl rfl⟩
theorem f_ga_218 : gp_fl "GasTurn" 218 9 0 := ⟨by decide, "GasTurn$Sheets", lw_g_of (lw_t2 (List.mem_of_getElem? (i := 17) (by decide +kernel))) rfl, Or.inl rfl⟩
theorem f_sh_15 : gp_fl "GasTurn$Sheets" 15 9 1 := ⟨by decide, "GasTurn$Sheets", lw_g_of (lw_t2 (List.mem_of_getElem? (i := 18) (by decide +kernel))) rfl, Or.inl rfl⟩
theorem f_ga_461 : gp_fl "GasTurn" 461 9 1 := ⟨by decide, "GasTurn$Sheets", lw_g_of (lw_t2 (List.mem_of_getElem? (i := 19) (by decide +kernel))) rfl, Or.inl rfl⟩
theorem f_sh_20 : gp_fl "GasTurn$Sheets" 20 9 2 := ⟨by decide, "GasTurn$Sheets", lw_g_of (lw_t2 (List.mem_of_getElem? (i := 20) (by decide +kernel))) rfl, Or.inl rfl⟩
theorem f_ga_225 : gp_fl "GasTurn" 225 9 2 := ⟨by decide, "GasTurn$Sheets", lw_g_of (lw_t2 (List.mem_of_getElem? (i := 21) (by decide +kernel))) rfl, Or.inl rfl⟩
theorem f_ga_10 : gp_fl "GasTurn" 10 11 0 := ⟨by decide, "GasTurn", lw_g_of (lw_t2 (List.mem_of_getElem? (i := 29) (by decide +kernel))) rfl, Or.inl rfl⟩
theorem f_ga_16 : gp_fl "GasTurn" 16 11 1 := ⟨by decide, "GasTurn", lw_g_of (lw_t2 (List.mem_of_getElem? (i := 30) (by decide +kernel))) rfl, Or.inl rfl⟩
theorem f_ga_23 : gp_fl "GasTurn" 23 11 2 := ⟨by decide, "GasTurn", lw_g_of (lw_t2 (List.mem_of_getElem? (i := 31) (by decide +kernel))) rfl, Or.inl rfl⟩
theorem f_ga_29 : gp_fl "GasTurn" 29 11 3 := ⟨by decide, "GasTurn", lw_g_of (lw_t2 (List.mem_of_getElem? (i := 32) (by decide +kernel))) rfl, Or.inl rfl⟩
theorem f_ga_187 : gp_fl "GasTurn" 187 11 4 := ⟨by decide, "GasTurn", lw_g_of (lw_t2 (List.mem_of_getElem? (i := 33) (by decide +kernel))) rfl, Or.inl rfl⟩
theorem f_ga_35 : gp_fl "GasTurn" 35 11 5 := ⟨by decide, "GasTurn", lw_g_of (lw_t2 (List.mem_of_getElem? (i := 34) (by decide +kernel))) rfl, Or.inl rfl⟩
theorem f_ga_198 : gp_fl "GasTurn" 198 11 6 := ⟨by decide, "GasTurn", lw_g_of (lw_t2 (List.mem_of_getElem? (i := 35) (by decide +kernel))) rfl, Or.inl rfl⟩
theorem f_ga_39 : gp_fl "GasTurn" 39 11 7 := ⟨by decide, "GasTurn", lw_g_of (lw_t2 (List.mem_of_getElem? (i := 36) (by decide +kernel))) rfl, Or.inl rfl⟩
theorem f_ga_42 : gp_fl "GasTurn" 42 11 8 := ⟨by decide, "GasTurn", lw_g_of (lw_t2 (List.mem_of_getElem? (i := 37) (by decide +kernel))) rfl, Or.inl rfl⟩
theorem f_ga_313 : gp_fl "GasTurn" 313 11 9 := ⟨by decide, "GasTurn", lw_g_of (lw_t2 (List.mem_of_getElem? (i := 38) (by decide +kernel))) rfl, Or.inl rfl⟩
theorem f_ga_45 : gp_fl "GasTurn" 45 11 10 := ⟨by decide, "GasTurn", lw_g_of (lw_t2 (List.mem_of_getElem? (i := 39) (by decide +kernel))) rfl, Or.inl rfl⟩
theorem f_ga_48 : gp_fl "GasTurn" 48 11 11 := ⟨by decide, "GasTurn", lw_g_of (lw_t2 (List.mem_of_getElem? (i := 40) (by decide +kernel))) rfl, Or.inl rfl⟩
theorem f_ga_51 : gp_fl "GasTurn" 51 11 12 := ⟨by decide, "GasTurn", lw_g_of (lw_t2 (List.mem_of_getElem? (i := 41) (by decide +kernel))) rfl, Or.inl rfl⟩
theorem f_ga_54 : gp_fl "GasTurn" 54 11 13 := ⟨by decide, "GasTurn", lw_g_of (lw_t2 (List.mem_of_getElem? (i := 42) (by decide +kernel))) rfl, Or.inl rfl⟩
theorem f_ga_268 : gp_fl "GasTurn" 268 11 14 := ⟨by decide, "GasTurn", lw_g_of (lw_t2 (List.mem_of_getElem? (i := 43) (by decide +kernel))) rfl, Or.inl rfl⟩
theorem f_ga_62 : gp_fl "GasTurn" 62 11 15 := ⟨by decide, "GasTurn", lw_g_of (lw_t2 (List.mem_of_getElem? (i := 44) (by decide +kernel))) rfl, Or.inl rfl⟩
theorem f_ga_265 : gp_fl "GasTurn" 265 11 16 := ⟨by decide, "GasTurn", lw_g_of (lw_t2 (List.mem_of_getElem? (i := 45) (by decide +kernel))) rfl, Or.inl rfl⟩
theorem f_ga_69 : gp_fl "GasTurn" 69 11 17 := ⟨by decide, "GasTurn", lw_g_of (lw_t2 (List.mem_of_getElem? (i := 46) (by decide +kernel))) rfl, Or.inl rfl⟩
theorem f_ga_76 : gp_fl "GasTurn" 76 11 18 := ⟨by decide, "GasTurn", lw_g_of (lw_t2 (List.mem_of_getElem? (i := 47) (by decide +kernel))) rfl, Or.inl rfl⟩
theorem f_ga_83 : gp_fl "GasTurn" 83 11 19 := ⟨by decide, "GasTurn", lw_g_of (lw_t2 (List.mem_of_getElem? (i := 48) (by decide +kernel))) rfl, Or.inl rfl⟩
theorem f_ri_9 : gp_fl "GasTurn$Ring" 9 7 0 := ⟨by decide, "GasTurn$Ring", lw_g_of (lw_t3 (List.mem_of_getElem? (i := 15) (by decide +kernel))) rfl, Or.inl rfl⟩
theorem f_fi_9 : gp_fl "GasTurn$Fire" 9 7 0 := ⟨by decide, "GasTurn$Fire", lw_g_of (lw_t3 (List.mem_of_getElem? (i := 16) (by decide +kernel))) rfl, Or.inr (lw_g_of (lw_t3 (List.mem_of_getElem? (i := 17) (by decide +kernel))) rfl)⟩
theorem f_gr_9 : gp_fl "GasTurn$Grill" 9 7 0 := ⟨by decide, "GasTurn$Grill", lw_g_of (lw_t3 (List.mem_of_getElem? (i := 18) (by decide +kernel))) rfl, Or.inr (lw_g_of (lw_t3 (List.mem_of_getElem? (i := 19) (by decide +kernel))) rfl)⟩
theorem f_ov_9 : gp_fl "GasTurn$Oven" 9 7 0 := ⟨by decide, "GasTurn$Oven", lw_g_of (lw_t3 (List.mem_of_getElem? (i := 20) (by decide +kernel))) rfl, Or.inr (lw_g_of (lw_t3 (List.mem_of_getElem? (i := 21) (by decide +kernel))) rfl)⟩
theorem f_ri_15 : gp_fl "GasTurn$Ring" 15 7 1 := ⟨by decide, "GasTurn$Ring", lw_g_of (lw_t3 (List.mem_of_getElem? (i := 22) (by decide +kernel))) rfl, Or.inl rfl⟩
theorem f_fi_25 : gp_fl "GasTurn$Fire" 25 7 1 := ⟨by decide, "GasTurn$Fire", lw_g_of (lw_t3 (List.mem_of_getElem? (i := 23) (by decide +kernel))) rfl, Or.inr (lw_g_of (lw_t3 (List.mem_of_getElem? (i := 24) (by decide +kernel))) rfl)⟩
theorem f_ov_25 : gp_fl "GasTurn$Oven" 25 7 1 := ⟨by decide, "GasTurn$Oven", lw_g_of (lw_t3 (List.mem_of_getElem? (i := 25) (by decide +kernel))) rfl, Or.inr (lw_g_of (lw_t3 (List.mem_of_getElem? (i := 26) (by decide +kernel))) rfl)⟩
theorem f_ga_406 : gp_fl "GasTurn" 406 7 1 := ⟨by decide, "GasTurn$Ring", lw_g_of (lw_t3 (List.mem_of_getElem? (i := 27) (by decide +kernel))) rfl, Or.inl rfl⟩
theorem f_ri_19 : gp_fl "GasTurn$Ring" 19 7 2 := ⟨by decide, "GasTurn$Ring", lw_g_of (lw_t3 (List.mem_of_getElem? (i := 28) (by decide +kernel))) rfl, Or.inl rfl⟩
theorem f_ga_531 : gp_fl "GasTurn" 531 7 2 := ⟨by decide, "GasTurn$Ring", lw_g_of (lw_t3 (List.mem_of_getElem? (i := 29) (by decide +kernel))) rfl, Or.inl rfl⟩
theorem f_ri_22 : gp_fl "GasTurn$Ring" 22 7 3 := ⟨by decide, "GasTurn$Ring", lw_g_of (lw_t3 (List.mem_of_getElem? (i := 30) (by decide +kernel))) rfl, Or.inl rfl⟩
theorem f_ga_534 : gp_fl "GasTurn" 534 7 3 := ⟨by decide, "GasTurn$Ring", lw_g_of (lw_t3 (List.mem_of_getElem? (i := 31) (by decide +kernel))) rfl, Or.inl rfl⟩
theorem f_ri_25 : gp_fl "GasTurn$Ring" 25 7 4 := ⟨by decide, "GasTurn$Ring", lw_g_of (lw_t3 (List.mem_of_getElem? (i := 32) (by decide +kernel))) rfl, Or.inl rfl⟩
theorem f_ga_529 : gp_fl "GasTurn" 529 7 4 := ⟨by decide, "GasTurn$Ring", lw_g_of (lw_t3 (List.mem_of_getElem? (i := 33) (by decide +kernel))) rfl, Or.inl rfl⟩
theorem f_ri_28 : gp_fl "GasTurn$Ring" 28 7 5 := ⟨by decide, "GasTurn$Ring", lw_g_of (lw_t3 (List.mem_of_getElem? (i := 34) (by decide +kernel))) rfl, Or.inl rfl⟩
theorem f_ga_358 : gp_fl "GasTurn" 358 7 5 := ⟨by decide, "GasTurn$Ring", lw_g_of (lw_t3 (List.mem_of_getElem? (i := 35) (by decide +kernel))) rfl, Or.inl rfl⟩
theorem f_ho_24 : gp_fl "GasTurn$Home" 24 3 0 := ⟨by decide, "GasTurn$Home", lw_g_of (lw_t3 (List.mem_of_getElem? (i := 97) (by decide +kernel))) rfl, Or.inl rfl⟩
theorem f_ga_240 : gp_fl "GasTurn" 240 3 0 := ⟨by decide, "GasTurn$Home", lw_g_of (lw_t3 (List.mem_of_getElem? (i := 98) (by decide +kernel))) rfl, Or.inl rfl⟩
theorem f_ho_27 : gp_fl "GasTurn$Home" 27 3 1 := ⟨by decide, "GasTurn$Home", lw_g_of (lw_t3 (List.mem_of_getElem? (i := 99) (by decide +kernel))) rfl, Or.inl rfl⟩
theorem f_ga_243 : gp_fl "GasTurn" 243 3 1 := ⟨by decide, "GasTurn$Home", lw_g_of (lw_t3 (List.mem_of_getElem? (i := 100) (by decide +kernel))) rfl, Or.inl rfl⟩
theorem f_ho_30 : gp_fl "GasTurn$Home" 30 3 2 := ⟨by decide, "GasTurn$Home", lw_g_of (lw_t3 (List.mem_of_getElem? (i := 101) (by decide +kernel))) rfl, Or.inl rfl⟩
theorem f_ga_246 : gp_fl "GasTurn" 246 3 2 := ⟨by decide, "GasTurn$Home", lw_g_of (lw_t3 (List.mem_of_getElem? (i := 102) (by decide +kernel))) rfl, Or.inl rfl⟩
theorem f_ho_33 : gp_fl "GasTurn$Home" 33 3 3 := ⟨by decide, "GasTurn$Home", lw_g_of (lw_t3 (List.mem_of_getElem? (i := 103) (by decide +kernel))) rfl, Or.inl rfl⟩
theorem f_ga_354 : gp_fl "GasTurn" 354 3 3 := ⟨by decide, "GasTurn$Home", lw_g_of (lw_t3 (List.mem_of_getElem? (i := 104) (by decide +kernel))) rfl, Or.inl rfl⟩
theorem f_ho_9 : gp_fl "GasTurn$Home" 9 3 4 := ⟨by decide, "GasTurn$Home", lw_g_of (lw_t3 (List.mem_of_getElem? (i := 105) (by decide +kernel))) rfl, Or.inl rfl⟩
theorem f_ga_249 : gp_fl "GasTurn" 249 3 4 := ⟨by decide, "GasTurn$Home", lw_g_of (lw_t3 (List.mem_of_getElem? (i := 106) (by decide +kernel))) rfl, Or.inl rfl⟩
theorem f_ho_15 : gp_fl "GasTurn$Home" 15 3 5 := ⟨by decide, "GasTurn$Home", lw_g_of (lw_t3 (List.mem_of_getElem? (i := 107) (by decide +kernel))) rfl, Or.inl rfl⟩
theorem f_ga_252 : gp_fl "GasTurn" 252 3 5 := ⟨by decide, "GasTurn$Home", lw_g_of (lw_t3 (List.mem_of_getElem? (i := 108) (by decide +kernel))) rfl, Or.inl rfl⟩
theorem f_ho_18 : gp_fl "GasTurn$Home" 18 3 6 := ⟨by decide, "GasTurn$Home", lw_g_of (lw_t3 (List.mem_of_getElem? (i := 109) (by decide +kernel))) rfl, Or.inl rfl⟩
theorem f_ga_255 : gp_fl "GasTurn" 255 3 6 := ⟨by decide, "GasTurn$Home", lw_g_of (lw_t3 (List.mem_of_getElem? (i := 110) (by decide +kernel))) rfl, Or.inl rfl⟩
theorem f_ho_21 : gp_fl "GasTurn$Home" 21 3 7 := ⟨by decide, "GasTurn$Home", lw_g_of (lw_t3 (List.mem_of_getElem? (i := 111) (by decide +kernel))) rfl, Or.inl rfl⟩
theorem f_ga_258 : gp_fl "GasTurn" 258 3 7 := ⟨by decide, "GasTurn$Home", lw_g_of (lw_t3 (List.mem_of_getElem? (i := 112) (by decide +kernel))) rfl, Or.inl rfl⟩
theorem f_ga_261 : gp_fl "GasTurn" 261 3 8 := ⟨by decide, "GasTurn$Home", lw_g_of (lw_t3 (List.mem_of_getElem? (i := 113) (by decide +kernel))) rfl, Or.inl rfl⟩
theorem f_ga_502 : gp_fl "GasTurn" 502 3 9 := ⟨by decide, "GasTurn$Home", lw_g_of (lw_t3 (List.mem_of_getElem? (i := 114) (by decide +kernel))) rfl, Or.inl rfl⟩
theorem f_mo_193 : gp_fl "GasTurnModel" 193 12 0 := ⟨by decide, "GasTurnModel", lw_g_of (lw_t5 (List.mem_of_getElem? (i := 210) (by decide +kernel))) rfl, Or.inl rfl⟩
theorem f_mo_216 : gp_fl "GasTurnModel" 216 12 1 := ⟨by decide, "GasTurnModel", lw_g_of (lw_t5 (List.mem_of_getElem? (i := 211) (by decide +kernel))) rfl, Or.inl rfl⟩
theorem f_mo_7 : gp_fl "GasTurnModel" 7 12 2 := ⟨by decide, "GasTurnModel", lw_g_of (lw_t5 (List.mem_of_getElem? (i := 212) (by decide +kernel))) rfl, Or.inl rfl⟩
theorem f_mo_13 : gp_fl "GasTurnModel" 13 12 3 := ⟨by decide, "GasTurnModel", lw_g_of (lw_t5 (List.mem_of_getElem? (i := 213) (by decide +kernel))) rfl, Or.inl rfl⟩
theorem f_mo_16 : gp_fl "GasTurnModel" 16 12 4 := ⟨by decide, "GasTurnModel", lw_g_of (lw_t5 (List.mem_of_getElem? (i := 214) (by decide +kernel))) rfl, Or.inl rfl⟩
theorem f_mo_20 : gp_fl "GasTurnModel" 20 12 5 := ⟨by decide, "GasTurnModel", lw_g_of (lw_t5 (List.mem_of_getElem? (i := 215) (by decide +kernel))) rfl, Or.inl rfl⟩
theorem f_mo_219 : gp_fl "GasTurnModel" 219 12 6 := ⟨by decide, "GasTurnModel", lw_g_of (lw_t5 (List.mem_of_getElem? (i := 216) (by decide +kernel))) rfl, Or.inl rfl⟩
theorem f_mo_23 : gp_fl "GasTurnModel" 23 12 7 := ⟨by decide, "GasTurnModel", lw_g_of (lw_t5 (List.mem_of_getElem? (i := 217) (by decide +kernel))) rfl, Or.inl rfl⟩
theorem f_mo_26 : gp_fl "GasTurnModel" 26 12 8 := ⟨by decide, "GasTurnModel", lw_g_of (lw_t5 (List.mem_of_getElem? (i := 218) (by decide +kernel))) rfl, Or.inl rfl⟩
theorem f_mo_29 : gp_fl "GasTurnModel" 29 12 9 := ⟨by decide, "GasTurnModel", lw_g_of (lw_t5 (List.mem_of_getElem? (i := 219) (by decide +kernel))) rfl, Or.inl rfl⟩
theorem f_mo_32 : gp_fl "GasTurnModel" 32 12 10 := ⟨by decide, "GasTurnModel", lw_g_of (lw_t5 (List.mem_of_getElem? (i := 220) (by decide +kernel))) rfl, Or.inl rfl⟩
theorem f_mo_35 : gp_fl "GasTurnModel" 35 12 11 := ⟨by decide, "GasTurnModel", lw_g_of (lw_t5 (List.mem_of_getElem? (i := 221) (by decide +kernel))) rfl, Or.inl rfl⟩
theorem f_mo_39 : gp_fl "GasTurnModel" 39 12 12 := ⟨by decide, "GasTurnModel", lw_g_of (lw_t5 (List.mem_of_getElem? (i := 222) (by decide +kernel))) rfl, Or.inl rfl⟩
theorem f_mo_203 : gp_fl "GasTurnModel" 203 12 13 := ⟨by decide, "GasTurnModel", lw_g_of (lw_t5 (List.mem_of_getElem? (i := 223) (by decide +kernel))) rfl, Or.inl rfl⟩
theorem f_mo_42 : gp_fl "GasTurnModel" 42 12 14 := ⟨by decide, "GasTurnModel", lw_g_of (lw_t5 (List.mem_of_getElem? (i := 224) (by decide +kernel))) rfl, Or.inl rfl⟩
theorem f_mo_45 : gp_fl "GasTurnModel" 45 12 15 := ⟨by decide, "GasTurnModel", lw_g_of (lw_t5 (List.mem_of_getElem? (i := 225) (by decide +kernel))) rfl, Or.inl rfl⟩
theorem f_mo_48 : gp_fl "GasTurnModel" 48 12 16 := ⟨by decide, "GasTurnModel", lw_g_of (lw_t5 (List.mem_of_getElem? (i := 226) (by decide +kernel))) rfl, Or.inl rfl⟩
theorem f_mo_51 : gp_fl "GasTurnModel" 51 12 17 := ⟨by decide, "GasTurnModel", lw_g_of (lw_t5 (List.mem_of_getElem? (i := 227) (by decide +kernel))) rfl, Or.inl rfl⟩
theorem f_mo_54 : gp_fl "GasTurnModel" 54 12 18 := ⟨by decide, "GasTurnModel", lw_g_of (lw_t5 (List.mem_of_getElem? (i := 228) (by decide +kernel))) rfl, Or.inl rfl⟩
theorem f_mo_200 : gp_fl "GasTurnModel" 200 12 19 := ⟨by decide, "GasTurnModel", lw_g_of (lw_t5 (List.mem_of_getElem? (i := 229) (by decide +kernel))) rfl, Or.inl rfl⟩
theorem f_mo_57 : gp_fl "GasTurnModel" 57 12 20 := ⟨by decide, "GasTurnModel", lw_g_of (lw_t5 (List.mem_of_getElem? (i := 230) (by decide +kernel))) rfl, Or.inl rfl⟩
theorem f_mo_60 : gp_fl "GasTurnModel" 60 12 21 := ⟨by decide, "GasTurnModel", lw_g_of (lw_t5 (List.mem_of_getElem? (i := 231) (by decide +kernel))) rfl, Or.inl rfl⟩
theorem f_mo_63 : gp_fl "GasTurnModel" 63 12 22 := ⟨by decide, "GasTurnModel", lw_g_of (lw_t5 (List.mem_of_getElem? (i := 232) (by decide +kernel))) rfl, Or.inl rfl⟩
theorem f_mo_66 : gp_fl "GasTurnModel" 66 12 23 := ⟨by decide, "GasTurnModel", lw_g_of (lw_t5 (List.mem_of_getElem? (i := 233) (by decide +kernel))) rfl, Or.inl rfl⟩
theorem f_mo_69 : gp_fl "GasTurnModel" 69 12 24 := ⟨by decide, "GasTurnModel", lw_g_of (lw_t5 (List.mem_of_getElem? (i := 234) (by decide +kernel))) rfl, Or.inl rfl⟩
theorem f_mo_72 : gp_fl "GasTurnModel" 72 12 25 := ⟨by decide, "GasTurnModel", lw_g_of (lw_t5 (List.mem_of_getElem? (i := 235) (by decide +kernel))) rfl, Or.inl rfl⟩
theorem f_mo_75 : gp_fl "GasTurnModel" 75 12 26 := ⟨by decide, "GasTurnModel", lw_g_of (lw_t5 (List.mem_of_getElem? (i := 236) (by decide +kernel))) rfl, Or.inl rfl⟩
theorem f_mo_78 : gp_fl "GasTurnModel" 78 12 27 := ⟨by decide, "GasTurnModel", lw_g_of (lw_t5 (List.mem_of_getElem? (i := 237) (by decide +kernel))) rfl, Or.inl rfl⟩
theorem f_mo_81 : gp_fl "GasTurnModel" 81 12 28 := ⟨by decide, "GasTurnModel", lw_g_of (lw_t5 (List.mem_of_getElem? (i := 238) (by decide +kernel))) rfl, Or.inl rfl⟩
theorem f_mo_254 : gp_fl "GasTurnModel" 254 12 29 := ⟨by decide, "GasTurnModel", lw_g_of (lw_t5 (List.mem_of_getElem? (i := 239) (by decide +kernel))) rfl, Or.inl rfl⟩
theorem f_mo_84 : gp_fl "GasTurnModel" 84 12 30 := ⟨by decide, "GasTurnModel", lw_g_of (lw_t6 (List.mem_of_getElem? (i := 0) (by decide +kernel))) rfl, Or.inl rfl⟩
theorem f_mo_87 : gp_fl "GasTurnModel" 87 12 31 := ⟨by decide, "GasTurnModel", lw_g_of (lw_t6 (List.mem_of_getElem? (i := 1) (by decide +kernel))) rfl, Or.inl rfl⟩
theorem f_mo_90 : gp_fl "GasTurnModel" 90 12 32 := ⟨by decide, "GasTurnModel", lw_g_of (lw_t6 (List.mem_of_getElem? (i := 2) (by decide +kernel))) rfl, Or.inl rfl⟩
theorem f_mo_277 : gp_fl "GasTurnModel" 277 12 33 := ⟨by decide, "GasTurnModel", lw_g_of (lw_t6 (List.mem_of_getElem? (i := 3) (by decide +kernel))) rfl, Or.inl rfl⟩
theorem f_mo_93 : gp_fl "GasTurnModel" 93 12 34 := ⟨by decide, "GasTurnModel", lw_g_of (lw_t6 (List.mem_of_getElem? (i := 4) (by decide +kernel))) rfl, Or.inl rfl⟩
theorem f_mo_96 : gp_fl "GasTurnModel" 96 12 35 := ⟨by decide, "GasTurnModel", lw_g_of (lw_t6 (List.mem_of_getElem? (i := 5) (by decide +kernel))) rfl, Or.inl rfl⟩
theorem f_mo_99 : gp_fl "GasTurnModel" 99 12 36 := ⟨by decide, "GasTurnModel", lw_g_of (lw_t6 (List.mem_of_getElem? (i := 6) (by decide +kernel))) rfl, Or.inl rfl⟩
theorem f_mo_206 : gp_fl "GasTurnModel" 206 12 37 := ⟨by decide, "GasTurnModel", lw_g_of (lw_t6 (List.mem_of_getElem? (i := 7) (by decide +kernel))) rfl, Or.inl rfl⟩
theorem f_mo_102 : gp_fl "GasTurnModel" 102 12 38 := ⟨by decide, "GasTurnModel", lw_g_of (lw_t6 (List.mem_of_getElem? (i := 8) (by decide +kernel))) rfl, Or.inl rfl⟩
theorem f_mo_105 : gp_fl "GasTurnModel" 105 12 39 := ⟨by decide, "GasTurnModel", lw_g_of (lw_t6 (List.mem_of_getElem? (i := 9) (by decide +kernel))) rfl, Or.inl rfl⟩
theorem f_mo_310 : gp_fl "GasTurnModel" 310 12 40 := ⟨by decide, "GasTurnModel", lw_g_of (lw_t6 (List.mem_of_getElem? (i := 10) (by decide +kernel))) rfl, Or.inl rfl⟩
theorem f_mo_108 : gp_fl "GasTurnModel" 108 12 41 := ⟨by decide, "GasTurnModel", lw_g_of (lw_t6 (List.mem_of_getElem? (i := 11) (by decide +kernel))) rfl, Or.inl rfl⟩
theorem f_mo_307 : gp_fl "GasTurnModel" 307 12 42 := ⟨by decide, "GasTurnModel", lw_g_of (lw_t6 (List.mem_of_getElem? (i := 12) (by decide +kernel))) rfl, Or.inl rfl⟩
theorem f_mo_111 : gp_fl "GasTurnModel" 111 12 43 := ⟨by decide, "GasTurnModel", lw_g_of (lw_t6 (List.mem_of_getElem? (i := 13) (by decide +kernel))) rfl, Or.inl rfl⟩
theorem f_mo_274 : gp_fl "GasTurnModel" 274 12 44 := ⟨by decide, "GasTurnModel", lw_g_of (lw_t6 (List.mem_of_getElem? (i := 14) (by decide +kernel))) rfl, Or.inl rfl⟩
theorem f_mo_209 : gp_fl "GasTurnModel" 209 12 45 := ⟨by decide, "GasTurnModel", lw_g_of (lw_t6 (List.mem_of_getElem? (i := 15) (by decide +kernel))) rfl, Or.inl rfl⟩
theorem f_mo_114 : gp_fl "GasTurnModel" 114 12 46 := ⟨by decide, "GasTurnModel", lw_g_of (lw_t6 (List.mem_of_getElem? (i := 16) (by decide +kernel))) rfl, Or.inl rfl⟩
theorem f_mo_117 : gp_fl "GasTurnModel" 117 12 47 := ⟨by decide, "GasTurnModel", lw_g_of (lw_t6 (List.mem_of_getElem? (i := 17) (by decide +kernel))) rfl, Or.inl rfl⟩
theorem f_mo_120 : gp_fl "GasTurnModel" 120 12 48 := ⟨by decide, "GasTurnModel", lw_g_of (lw_t6 (List.mem_of_getElem? (i := 18) (by decide +kernel))) rfl, Or.inl rfl⟩
theorem f_mo_123 : gp_fl "GasTurnModel" 123 12 49 := ⟨by decide, "GasTurnModel", lw_g_of (lw_t6 (List.mem_of_getElem? (i := 19) (by decide +kernel))) rfl, Or.inl rfl⟩
theorem f_mo_337 : gp_fl "GasTurnModel" 337 12 50 := ⟨by decide, "GasTurnModel", lw_g_of (lw_t6 (List.mem_of_getElem? (i := 20) (by decide +kernel))) rfl, Or.inl rfl⟩
theorem f_mo_126 : gp_fl "GasTurnModel" 126 12 51 := ⟨by decide, "GasTurnModel", lw_g_of (lw_t6 (List.mem_of_getElem? (i := 21) (by decide +kernel))) rfl, Or.inl rfl⟩
theorem f_mo_129 : gp_fl "GasTurnModel" 129 12 52 := ⟨by decide, "GasTurnModel", lw_g_of (lw_t6 (List.mem_of_getElem? (i := 22) (by decide +kernel))) rfl, Or.inl rfl⟩
theorem f_mo_132 : gp_fl "GasTurnModel" 132 12 53 := ⟨by decide, "GasTurnModel", lw_g_of (lw_t6 (List.mem_of_getElem? (i := 23) (by decide +kernel))) rfl, Or.inl rfl⟩
theorem f_mo_135 : gp_fl "GasTurnModel" 135 12 54 := ⟨by decide, "GasTurnModel", lw_g_of (lw_t6 (List.mem_of_getElem? (i := 24) (by decide +kernel))) rfl, Or.inl rfl⟩
theorem f_mo_138 : gp_fl "GasTurnModel" 138 12 55 := ⟨by decide, "GasTurnModel", lw_g_of (lw_t6 (List.mem_of_getElem? (i := 25) (by decide +kernel))) rfl, Or.inl rfl⟩
theorem f_mo_343 : gp_fl "GasTurnModel" 343 12 56 := ⟨by decide, "GasTurnModel", lw_g_of (lw_t6 (List.mem_of_getElem? (i := 26) (by decide +kernel))) rfl, Or.inl rfl⟩
theorem f_mo_283 : gp_fl "GasTurnModel" 283 12 57 := ⟨by decide, "GasTurnModel", lw_g_of (lw_t6 (List.mem_of_getElem? (i := 27) (by decide +kernel))) rfl, Or.inl rfl⟩
theorem f_mo_141 : gp_fl "GasTurnModel" 141 12 58 := ⟨by decide, "GasTurnModel", lw_g_of (lw_t6 (List.mem_of_getElem? (i := 28) (by decide +kernel))) rfl, Or.inl rfl⟩
theorem f_mo_144 : gp_fl "GasTurnModel" 144 12 59 := ⟨by decide, "GasTurnModel", lw_g_of (lw_t6 (List.mem_of_getElem? (i := 29) (by decide +kernel))) rfl, Or.inl rfl⟩
theorem f_mo_147 : gp_fl "GasTurnModel" 147 12 60 := ⟨by decide, "GasTurnModel", lw_g_of (lw_t6 (List.mem_of_getElem? (i := 30) (by decide +kernel))) rfl, Or.inl rfl⟩
theorem f_mo_150 : gp_fl "GasTurnModel" 150 12 61 := ⟨by decide, "GasTurnModel", lw_g_of (lw_t6 (List.mem_of_getElem? (i := 31) (by decide +kernel))) rfl, Or.inl rfl⟩
theorem f_mo_153 : gp_fl "GasTurnModel" 153 12 62 := ⟨by decide, "GasTurnModel", lw_g_of (lw_t6 (List.mem_of_getElem? (i := 32) (by decide +kernel))) rfl, Or.inl rfl⟩
theorem f_mo_156 : gp_fl "GasTurnModel" 156 12 63 := ⟨by decide, "GasTurnModel", lw_g_of (lw_t6 (List.mem_of_getElem? (i := 33) (by decide +kernel))) rfl, Or.inl rfl⟩
theorem f_mo_351 : gp_fl "GasTurnModel" 351 12 64 := ⟨by decide, "GasTurnModel", lw_g_of (lw_t6 (List.mem_of_getElem? (i := 34) (by decide +kernel))) rfl, Or.inl rfl⟩
theorem f_mo_370 : gp_fl "GasTurnModel" 370 12 65 := ⟨by decide, "GasTurnModel", lw_g_of (lw_t6 (List.mem_of_getElem? (i := 35) (by decide +kernel))) rfl, Or.inl rfl⟩
theorem f_mo_159 : gp_fl "GasTurnModel" 159 12 66 := ⟨by decide, "GasTurnModel", lw_g_of (lw_t6 (List.mem_of_getElem? (i := 36) (by decide +kernel))) rfl, Or.inl rfl⟩
theorem f_mo_162 : gp_fl "GasTurnModel" 162 12 67 := ⟨by decide, "GasTurnModel", lw_g_of (lw_t6 (List.mem_of_getElem? (i := 37) (by decide +kernel))) rfl, Or.inl rfl⟩
theorem f_mo_165 : gp_fl "GasTurnModel" 165 12 68 := ⟨by decide, "GasTurnModel", lw_g_of (lw_t6 (List.mem_of_getElem? (i := 38) (by decide +kernel))) rfl, Or.inl rfl⟩
theorem f_mo_168 : gp_fl "GasTurnModel" 168 12 69 := ⟨by decide, "GasTurnModel", lw_g_of (lw_t6 (List.mem_of_getElem? (i := 39) (by decide +kernel))) rfl, Or.inl rfl⟩
theorem f_mo_171 : gp_fl "GasTurnModel" 171 12 70 := ⟨by decide, "GasTurnModel", lw_g_of (lw_t6 (List.mem_of_getElem? (i := 40) (by decide +kernel))) rfl, Or.inl rfl⟩
theorem f_mo_174 : gp_fl "GasTurnModel" 174 12 71 := ⟨by decide, "GasTurnModel", lw_g_of (lw_t6 (List.mem_of_getElem? (i := 41) (by decide +kernel))) rfl, Or.inl rfl⟩
theorem f_mo_177 : gp_fl "GasTurnModel" 177 12 72 := ⟨by decide, "GasTurnModel", lw_g_of (lw_t6 (List.mem_of_getElem? (i := 42) (by decide +kernel))) rfl, Or.inl rfl⟩
theorem f_mo_354 : gp_fl "GasTurnModel" 354 12 73 := ⟨by decide, "GasTurnModel", lw_g_of (lw_t6 (List.mem_of_getElem? (i := 43) (by decide +kernel))) rfl, Or.inl rfl⟩
theorem f_mo_360 : gp_fl "GasTurnModel" 360 12 74 := ⟨by decide, "GasTurnModel", lw_g_of (lw_t6 (List.mem_of_getElem? (i := 44) (by decide +kernel))) rfl, Or.inl rfl⟩
theorem f_mo_181 : gp_fl "GasTurnModel" 181 12 75 := ⟨by decide, "GasTurnModel", lw_g_of (lw_t6 (List.mem_of_getElem? (i := 45) (by decide +kernel))) rfl, Or.inl rfl⟩
theorem f_mo_184 : gp_fl "GasTurnModel" 184 12 76 := ⟨by decide, "GasTurnModel", lw_g_of (lw_t6 (List.mem_of_getElem? (i := 46) (by decide +kernel))) rfl, Or.inl rfl⟩
theorem f_mo_187 : gp_fl "GasTurnModel" 187 12 77 := ⟨by decide, "GasTurnModel", lw_g_of (lw_t6 (List.mem_of_getElem? (i := 47) (by decide +kernel))) rfl, Or.inl rfl⟩
theorem f_mo_190 : gp_fl "GasTurnModel" 190 12 78 := ⟨by decide, "GasTurnModel", lw_g_of (lw_t6 (List.mem_of_getElem? (i := 48) (by decide +kernel))) rfl, Or.inl rfl⟩
theorem c_lw_7 : Cond.classLink "GasTurnLaw" 7 "GasTurn" ∈ lw_g := lw_g_of (lw_t1 (List.mem_of_getElem? (i := 22) (by decide +kernel))) rfl
theorem c_ga_7 : Cond.classLink "GasTurn" 7 "GasTurn$Net" ∈ lw_g := lw_g_of (lw_t1 (List.mem_of_getElem? (i := 30) (by decide +kernel))) rfl
theorem c_ga_20 : Cond.classLink "GasTurn" 20 "GasTurn$Trace" ∈ lw_g := lw_g_of (lw_t1 (List.mem_of_getElem? (i := 95) (by decide +kernel))) rfl
theorem c_ga_27 : Cond.classLink "GasTurn" 27 "GasTurn$Ring" ∈ lw_g := lw_g_of (lw_t1 (List.mem_of_getElem? (i := 110) (by decide +kernel))) rfl
theorem c_ga_33 : Cond.classLink "GasTurn" 33 "GasTurn$Home" ∈ lw_g := lw_g_of (lw_t1 (List.mem_of_getElem? (i := 112) (by decide +kernel))) rfl
theorem c_ga_57 : Cond.classLink "GasTurn" 57 "GasTurn$Sectors" ∈ lw_g := lw_g_of (lw_t1 (List.mem_of_getElem? (i := 114) (by decide +kernel))) rfl
theorem c_ga_66 : Cond.classLink "GasTurn" 66 "GasTurn$Duty" ∈ lw_g := lw_g_of (lw_t1 (List.mem_of_getElem? (i := 164) (by decide +kernel))) rfl
theorem c_ga_73 : Cond.classLink "GasTurn" 73 "GasTurn$Laws" ∈ lw_g := lw_g_of (lw_t1 (List.mem_of_getElem? (i := 212) (by decide +kernel))) rfl
theorem c_ga_80 : Cond.classLink "GasTurn" 80 "GasTurn$Sheets" ∈ lw_g := lw_g_of (lw_t2 (List.mem_of_getElem? (i := 8) (by decide +kernel))) rfl
theorem c_sh_18 : Cond.classLink "GasTurn$Sheets" 18 "[[I" ∈ lw_g := lw_g_of (lw_t2 (List.mem_of_getElem? (i := 14) (by decide +kernel))) rfl
theorem c_ga_487 : Cond.classLink "GasTurn" 487 "GasTurn$Oven" ∈ lw_g := lw_g_of (lw_t3 (List.mem_of_getElem? (i := 6) (by decide +kernel))) rfl
theorem c_ga_492 : Cond.classLink "GasTurn" 492 "GasTurn$Grill" ∈ lw_g := lw_g_of (lw_t3 (List.mem_of_getElem? (i := 49) (by decide +kernel))) rfl
theorem c_ga_495 : Cond.classLink "GasTurn" 495 "GasTurn$Fire" ∈ lw_g := lw_g_of (lw_t3 (List.mem_of_getElem? (i := 62) (by decide +kernel))) rfl
theorem c_lw_10 : Cond.classLink "GasTurnLaw" 10 "GasTurnModel" ∈ lw_g := lw_g_of (lw_t5 (List.mem_of_getElem? (i := 204) (by decide +kernel))) rfl
theorem n_du : Cond.instantiable "GasTurn$Duty" 11 ∈ lw_g := lw_g_of (lw_t1 (List.mem_of_getElem? (i := 165) (by decide +kernel))) rfl
theorem tt_du : Cond.initialized "GasTurn$Duty" ∈ lw_g := lw_g_of (lw_t1 (List.mem_of_getElem? (i := 5) (by decide +kernel))) rfl
theorem n_fi : Cond.instantiable "GasTurn$Fire" 6 ∈ lw_g := lw_g_of (lw_t3 (List.mem_of_getElem? (i := 63) (by decide +kernel))) rfl
theorem tt_fi : Cond.initialized "GasTurn$Fire" ∈ lw_g := lw_g_of (lw_t1 (List.mem_of_getElem? (i := 14) (by decide +kernel))) rfl
theorem n_gr : Cond.instantiable "GasTurn$Grill" 6 ∈ lw_g := lw_g_of (lw_t3 (List.mem_of_getElem? (i := 50) (by decide +kernel))) rfl
theorem tt_gr : Cond.initialized "GasTurn$Grill" ∈ lw_g := lw_g_of (lw_t1 (List.mem_of_getElem? (i := 13) (by decide +kernel))) rfl
theorem n_ho : Cond.instantiable "GasTurn$Home" 10 ∈ lw_g := lw_g_of (lw_t3 (List.mem_of_getElem? (i := 92) (by decide +kernel))) rfl
theorem tt_ho : Cond.initialized "GasTurn$Home" ∈ lw_g := lw_g_of (lw_t1 (List.mem_of_getElem? (i := 15) (by decide +kernel))) rfl
theorem n_la : Cond.instantiable "GasTurn$Laws" 9 ∈ lw_g := lw_g_of (lw_t1 (List.mem_of_getElem? (i := 213) (by decide +kernel))) rfl
theorem tt_la : Cond.initialized "GasTurn$Laws" ∈ lw_g := lw_g_of (lw_t1 (List.mem_of_getElem? (i := 6) (by decide +kernel))) rfl
theorem n_ne : Cond.instantiable "GasTurn$Net" 14 ∈ lw_g := lw_g_of (lw_t1 (List.mem_of_getElem? (i := 31) (by decide +kernel))) rfl
theorem tt_ne : Cond.initialized "GasTurn$Net" ∈ lw_g := lw_g_of (lw_t1 (List.mem_of_getElem? (i := 2) (by decide +kernel))) rfl
theorem n_ov : Cond.instantiable "GasTurn$Oven" 6 ∈ lw_g := lw_g_of (lw_t3 (List.mem_of_getElem? (i := 7) (by decide +kernel))) rfl
theorem tt_ov : Cond.initialized "GasTurn$Oven" ∈ lw_g := lw_g_of (lw_t1 (List.mem_of_getElem? (i := 12) (by decide +kernel))) rfl
theorem n_ri : Cond.instantiable "GasTurn$Ring" 6 ∈ lw_g := lw_g_of (lw_t3 (List.mem_of_getElem? (i := 75) (by decide +kernel))) rfl
theorem tt_ri : Cond.initialized "GasTurn$Ring" ∈ lw_g := lw_g_of (lw_t1 (List.mem_of_getElem? (i := 11) (by decide +kernel))) rfl
theorem n_se : Cond.instantiable "GasTurn$Sectors" 12 ∈ lw_g := lw_g_of (lw_t1 (List.mem_of_getElem? (i := 115) (by decide +kernel))) rfl
theorem tt_se : Cond.initialized "GasTurn$Sectors" ∈ lw_g := lw_g_of (lw_t1 (List.mem_of_getElem? (i := 4) (by decide +kernel))) rfl
theorem n_sh : Cond.instantiable "GasTurn$Sheets" 3 ∈ lw_g := lw_g_of (lw_t2 (List.mem_of_getElem? (i := 9) (by decide +kernel))) rfl
theorem tt_sh : Cond.initialized "GasTurn$Sheets" ∈ lw_g := lw_g_of (lw_t1 (List.mem_of_getElem? (i := 7) (by decide +kernel))) rfl
theorem n_tr : Cond.instantiable "GasTurn$Trace" 2 ∈ lw_g := lw_g_of (lw_t1 (List.mem_of_getElem? (i := 96) (by decide +kernel))) rfl
theorem tt_tr : Cond.initialized "GasTurn$Trace" ∈ lw_g := lw_g_of (lw_t1 (List.mem_of_getElem? (i := 3) (by decide +kernel))) rfl
theorem n_ga : Cond.instantiable "GasTurn" 20 ∈ lw_g := lw_g_of (lw_t1 (List.mem_of_getElem? (i := 23) (by decide +kernel))) rfl
theorem tt_ga : Cond.initialized "GasTurn" ∈ lw_g := lw_g_of (lw_t1 (List.mem_of_getElem? (i := 1) (by decide +kernel))) rfl
theorem n_mo : Cond.instantiable "GasTurnModel" 79 ∈ lw_g := lw_g_of (lw_t5 (List.mem_of_getElem? (i := 205) (by decide +kernel))) rfl
theorem tt_mo : Cond.initialized "GasTurnModel" ∈ lw_g := lw_g_of (lw_t1 (List.mem_of_getElem? (i := 8) (by decide +kernel))) rfl
theorem k_in_265 : Cond.constant "java/lang/Integer" 265 1431655765 ∈ lw_g := lw_g_of (lw_t2 (List.mem_of_getElem? (i := 181) (by decide +kernel))) rfl
theorem k_in_266 : Cond.constant "java/lang/Integer" 266 858993459 ∈ lw_g := lw_g_of (lw_t2 (List.mem_of_getElem? (i := 182) (by decide +kernel))) rfl
theorem k_in_267 : Cond.constant "java/lang/Integer" 267 252645135 ∈ lw_g := lw_g_of (lw_t2 (List.mem_of_getElem? (i := 183) (by decide +kernel))) rfl
theorem k_se_107 : Cond.constant "GasTurn$Sectors" 107 1000000 ∈ lw_g := lw_g_of (lw_t4 (List.mem_of_getElem? (i := 65) (by decide +kernel))) rfl
theorem k_ga_413 : Cond.constantLong "GasTurn" 413 10000 ∈ lw_g := lw_g_of (lw_t4 (List.mem_of_getElem? (i := 231) (by decide +kernel))) rfl
theorem k_mo_349 : Cond.constantLong "GasTurnModel" 349 10000 ∈ lw_g := lw_g_of (lw_t8 (List.mem_of_getElem? (i := 11) (by decide +kernel))) rfl
theorem y_int : Cond.arrayClass .int ∈ lw_g := lw_g_of (lw_t1 (List.mem_of_getElem? (i := 93) (by decide +kernel))) rfl
theorem y_boolean : Cond.arrayClass .boolean ∈ lw_g := lw_g_of (lw_t1 (List.mem_of_getElem? (i := 94) (by decide +kernel))) rfl
theorem y_long : Cond.arrayClass .long ∈ lw_g := lw_g_of (lw_t6 (List.mem_of_getElem? (i := 208) (by decide +kernel))) rfl
theorem y_byte : Cond.arrayClass .byte ∈ lw_g := lw_g_of (lw_t5 (List.mem_of_getElem? (i := 78) (by decide +kernel))) rfl
theorem q_gr_ov : Cond.castable "GasTurn$Grill" "GasTurn$Oven" ∈ lw_n := List.mem_filter.mpr ⟨(lw_t8 (List.mem_of_getElem? (i := 93) (by decide +kernel))), rfl⟩
theorem q_ov_ri : Cond.castable "GasTurn$Oven" "GasTurn$Ring" ∈ lw_n := List.mem_filter.mpr ⟨(lw_t8 (List.mem_of_getElem? (i := 94) (by decide +kernel))), rfl⟩
theorem q_gr_ri : Cond.castable "GasTurn$Grill" "GasTurn$Ring" ∈ lw_n := List.mem_filter.mpr ⟨(lw_t8 (List.mem_of_getElem? (i := 95) (by decide +kernel))), rfl⟩
theorem q_fi_ri : Cond.castable "GasTurn$Fire" "GasTurn$Ring" ∈ lw_n := List.mem_filter.mpr ⟨(lw_t8 (List.mem_of_getElem? (i := 96) (by decide +kernel))), rfl⟩
theorem x_obj1 : Cond.instanceMethod Lib.objectInit ∈ lw_g := lw_g_of (lw_t1 (List.mem_of_getElem? (i := 28) (by decide +kernel))) rfl
theorem x_obj2 : Cond.code Lib.objectInit ⟨#[0xb1]⟩ 1 none ∈ lw_g := lw_g_of (lw_t1 (List.mem_of_getElem? (i := 29) (rfl))) rfl
theorem u_ne : Cond.superclass "GasTurn$Net" "java/lang/Object" ∈ lw_g := lw_g_of (lw_t1 (List.mem_of_getElem? (i := 92) (by decide +kernel))) rfl
theorem u_tr : Cond.superclass "GasTurn$Trace" "java/lang/Object" ∈ lw_g := lw_g_of (lw_t1 (List.mem_of_getElem? (i := 109) (by decide +kernel))) rfl
theorem u_se : Cond.superclass "GasTurn$Sectors" "java/lang/Object" ∈ lw_g := lw_g_of (lw_t1 (List.mem_of_getElem? (i := 163) (by decide +kernel))) rfl
theorem u_du : Cond.superclass "GasTurn$Duty" "java/lang/Object" ∈ lw_g := lw_g_of (lw_t1 (List.mem_of_getElem? (i := 211) (by decide +kernel))) rfl
theorem u_la : Cond.superclass "GasTurn$Laws" "java/lang/Object" ∈ lw_g := lw_g_of (lw_t2 (List.mem_of_getElem? (i := 7) (by decide +kernel))) rfl
theorem u_sh : Cond.superclass "GasTurn$Sheets" "java/lang/Object" ∈ lw_g := lw_g_of (lw_t2 (List.mem_of_getElem? (i := 28) (by decide +kernel))) rfl
theorem u_ga : Cond.superclass "GasTurn" "java/lang/Object" ∈ lw_g := lw_g_of (lw_t2 (List.mem_of_getElem? (i := 89) (by decide +kernel))) rfl
theorem u_ov : Cond.superclass "GasTurn$Oven" "GasTurn$Ring" ∈ lw_g := lw_g_of (lw_t3 (List.mem_of_getElem? (i := 48) (by decide +kernel))) rfl
theorem u_gr : Cond.superclass "GasTurn$Grill" "GasTurn$Oven" ∈ lw_g := lw_g_of (lw_t3 (List.mem_of_getElem? (i := 61) (by decide +kernel))) rfl
theorem u_fi : Cond.superclass "GasTurn$Fire" "GasTurn$Ring" ∈ lw_g := lw_g_of (lw_t3 (List.mem_of_getElem? (i := 74) (by decide +kernel))) rfl
theorem u_ri : Cond.superclass "GasTurn$Ring" "java/lang/Object" ∈ lw_g := lw_g_of (lw_t3 (List.mem_of_getElem? (i := 83) (by decide +kernel))) rfl
theorem u_ho : Cond.superclass "GasTurn$Home" "java/lang/Object" ∈ lw_g := lw_g_of (lw_t3 (List.mem_of_getElem? (i := 135) (by decide +kernel))) rfl
theorem w_ri_ri_takes_ri_takes : Cond.selects "GasTurn$Ring" m_ri_takes.1 m_ri_takes.1 ∈ lw_g := lw_g_of (lw_t3 (List.mem_of_getElem? (i := 196) (by decide +kernel))) rfl
theorem e_ri_ri_takes : Cond.sameMethod "GasTurn$Ring" "GasTurn$Ring" "takes" "(I)I" ∈ lw_g := lw_g_of (lw_t3 (List.mem_of_getElem? (i := 197) (by decide +kernel))) rfl
theorem w_fi_ri_takes_ri_takes : Cond.selects "GasTurn$Fire" m_ri_takes.1 m_ri_takes.1 ∈ lw_g := lw_g_of (lw_t3 (List.mem_of_getElem? (i := 198) (by decide +kernel))) rfl
theorem w_gr_ri_takes_ri_takes : Cond.selects "GasTurn$Grill" m_ri_takes.1 m_ri_takes.1 ∈ lw_g := lw_g_of (lw_t3 (List.mem_of_getElem? (i := 199) (by decide +kernel))) rfl
theorem w_ov_ri_takes_ri_takes : Cond.selects "GasTurn$Oven" m_ri_takes.1 m_ri_takes.1 ∈ lw_g := lw_g_of (lw_t3 (List.mem_of_getElem? (i := 200) (by decide +kernel))) rfl
theorem w_ri_ri_burns_ri_burns : Cond.selects "GasTurn$Ring" m_ri_burns.1 m_ri_burns.1 ∈ lw_g := lw_g_of (lw_t5 (List.mem_of_getElem? (i := 93) (by decide +kernel))) rfl
theorem e_ri_ri_burns : Cond.sameMethod "GasTurn$Ring" "GasTurn$Ring" "burns" "(I)I" ∈ lw_g := lw_g_of (lw_t5 (List.mem_of_getElem? (i := 94) (by decide +kernel))) rfl
theorem w_fi_ri_burns_fi_burns : Cond.selects "GasTurn$Fire" m_ri_burns.1 m_fi_burns.1 ∈ lw_g := lw_g_of (lw_t5 (List.mem_of_getElem? (i := 95) (by decide +kernel))) rfl
theorem w_gr_ri_burns_gr_burns : Cond.selects "GasTurn$Grill" m_ri_burns.1 m_gr_burns.1 ∈ lw_g := lw_g_of (lw_t5 (List.mem_of_getElem? (i := 103) (by decide +kernel))) rfl
theorem e_ov_ri_burns : Cond.sameMethod "GasTurn$Oven" "GasTurn$Ring" "burns" "(I)I" ∈ lw_g := lw_g_of (lw_t5 (List.mem_of_getElem? (i := 108) (by decide +kernel))) rfl
theorem w_ov_ri_burns_ri_burns : Cond.selects "GasTurn$Oven" m_ri_burns.1 m_ri_burns.1 ∈ lw_g := lw_g_of (lw_t5 (List.mem_of_getElem? (i := 110) (by decide +kernel))) rfl
theorem w_ri_ri_warms_ri_warms : Cond.selects "GasTurn$Ring" m_ri_warms.1 m_ri_warms.1 ∈ lw_g := lw_g_of (lw_t5 (List.mem_of_getElem? (i := 115) (by decide +kernel))) rfl
theorem e_ri_ri_warms : Cond.sameMethod "GasTurn$Ring" "GasTurn$Ring" "warms" "(I)I" ∈ lw_g := lw_g_of (lw_t5 (List.mem_of_getElem? (i := 116) (by decide +kernel))) rfl
theorem w_fi_ri_warms_fi_warms : Cond.selects "GasTurn$Fire" m_ri_warms.1 m_fi_warms.1 ∈ lw_g := lw_g_of (lw_t5 (List.mem_of_getElem? (i := 117) (by decide +kernel))) rfl
theorem w_gr_ri_warms_ov_warms : Cond.selects "GasTurn$Grill" m_ri_warms.1 m_ov_warms.1 ∈ lw_g := lw_g_of (lw_t5 (List.mem_of_getElem? (i := 122) (by decide +kernel))) rfl
theorem w_ov_ri_warms_ov_warms : Cond.selects "GasTurn$Oven" m_ri_warms.1 m_ov_warms.1 ∈ lw_g := lw_g_of (lw_t5 (List.mem_of_getElem? (i := 127) (by decide +kernel))) rfl
theorem w_ri_ri_fits_ri_fits : Cond.selects "GasTurn$Ring" m_ri_fits.1 m_ri_fits.1 ∈ lw_g := lw_g_of (lw_t5 (List.mem_of_getElem? (i := 132) (by decide +kernel))) rfl
theorem e_ri_ri_fits : Cond.sameMethod "GasTurn$Ring" "GasTurn$Ring" "fits" "(I)I" ∈ lw_g := lw_g_of (lw_t5 (List.mem_of_getElem? (i := 133) (by decide +kernel))) rfl
theorem w_fi_ri_fits_ri_fits : Cond.selects "GasTurn$Fire" m_ri_fits.1 m_ri_fits.1 ∈ lw_g := lw_g_of (lw_t5 (List.mem_of_getElem? (i := 134) (by decide +kernel))) rfl
theorem w_gr_ri_fits_gr_fits : Cond.selects "GasTurn$Grill" m_ri_fits.1 m_gr_fits.1 ∈ lw_g := lw_g_of (lw_t5 (List.mem_of_getElem? (i := 135) (by decide +kernel))) rfl
theorem e_ov_ri_fits : Cond.sameMethod "GasTurn$Oven" "GasTurn$Ring" "fits" "(I)I" ∈ lw_g := lw_g_of (lw_t5 (List.mem_of_getElem? (i := 139) (by decide +kernel))) rfl
theorem w_ov_ri_fits_ri_fits : Cond.selects "GasTurn$Oven" m_ri_fits.1 m_ri_fits.1 ∈ lw_g := lw_g_of (lw_t5 (List.mem_of_getElem? (i := 141) (by decide +kernel))) rfl
theorem w_ri_ri_kindNumber_ri_kindNumber : Cond.selects "GasTurn$Ring" m_ri_kindNumber.1 m_ri_kindNumber.1 ∈ lw_g := lw_g_of (lw_t5 (List.mem_of_getElem? (i := 157) (by decide +kernel))) rfl
theorem e_ri_ri_kindNumber : Cond.sameMethod "GasTurn$Ring" "GasTurn$Ring" "kindNumber" "()I" ∈ lw_g := lw_g_of (lw_t5 (List.mem_of_getElem? (i := 158) (by decide +kernel))) rfl
theorem w_fi_ri_kindNumber_fi_kindNumber : Cond.selects "GasTurn$Fire" m_ri_kindNumber.1 m_fi_kindNumber.1 ∈ lw_g := lw_g_of (lw_t5 (List.mem_of_getElem? (i := 159) (by decide +kernel))) rfl
theorem w_gr_ri_kindNumber_gr_kindNumber : Cond.selects "GasTurn$Grill" m_ri_kindNumber.1 m_gr_kindNumber.1 ∈ lw_g := lw_g_of (lw_t5 (List.mem_of_getElem? (i := 162) (by decide +kernel))) rfl
theorem w_ov_ri_kindNumber_ov_kindNumber : Cond.selects "GasTurn$Oven" m_ri_kindNumber.1 m_ov_kindNumber.1 ∈ lw_g := lw_g_of (lw_t5 (List.mem_of_getElem? (i := 165) (by decide +kernel))) rfl
theorem u_mo : Cond.superclass "GasTurnModel" "java/lang/Object" ∈ lw_g := lw_g_of (lw_t6 (List.mem_of_getElem? (i := 207) (by decide +kernel))) rfl
theorem w_fi_fi_burns_fi_burns : Cond.selects "GasTurn$Fire" m_fi_burns.1 m_fi_burns.1 ∈ lw_g := lw_g_of (lw_t8 (List.mem_of_getElem? (i := 92) (by decide +kernel))) rfl
