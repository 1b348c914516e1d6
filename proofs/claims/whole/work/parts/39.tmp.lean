/-! stand-ins while 10..30 are set aside -/
set_option maxRecDepth 100000 in
theorem mq_in : Cond.initialized "java/lang/Math" ∈ lw_tbl := List.mem_of_getElem? (i := 126) (by decide +kernel)
set_option maxRecDepth 100000 in
theorem mq_st_max : Cond.static Lib.Math.max.name ∈ lw_tbl := List.mem_of_getElem? (i := 151) (by decide +kernel)
set_option maxRecDepth 100000 in
theorem mq_co_max : Cond.code Lib.Math.max.name Lib.Math.max.code 2 (some .int) ∈ lw_tbl := List.mem_of_getElem? (i := 152) (by decide +kernel)
set_option maxRecDepth 100000 in
theorem fl_ho_11 : sm_FL "HerOrders" 11 6 0 := ⟨RX6, TX6, 7, rfl, by decide, rfl, sm_inX6, Or.inl (List.mem_of_getElem? (i := 363) (by decide +kernel))⟩
set_option maxRecDepth 100000 in
theorem fl_ho_18 : sm_FL "HerOrders" 18 6 1 := ⟨RX6, TX6, 7, rfl, by decide, rfl, sm_inX6, Or.inl (List.mem_of_getElem? (i := 364) (by decide +kernel))⟩
set_option maxRecDepth 100000 in
theorem fl_ho_31 : sm_FL "HerOrders" 31 6 2 := ⟨RX6, TX6, 7, rfl, by decide, rfl, sm_inX6, Or.inl (List.mem_of_getElem? (i := 365) (by decide +kernel))⟩
set_option maxRecDepth 100000 in
theorem fl_ho_23 : sm_FL "HerOrders" 23 6 3 := ⟨RX6, TX6, 7, rfl, by decide, rfl, sm_inX6, Or.inl (List.mem_of_getElem? (i := 366) (by decide +kernel))⟩
set_option maxRecDepth 100000 in
theorem fl_mo_7 : sm_FL "HerOrdersModel" 7 7 0 := ⟨RX7, TX7, 30, rfl, by decide, rfl, sm_inX7, Or.inl (List.mem_of_getElem? (i := 942) (by decide +kernel))⟩
abbrev mi_la_law : sm_MI := (⟨"HerOrdersLaw", "law", "([I)Z"⟩, code, 4, some .boolean, 1500)
