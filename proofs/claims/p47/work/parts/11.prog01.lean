/-! the program, by a program: functions of its methods and that the methods do them -/
set_option maxRecDepth 100000 in
theorem mq_hs_121 : Cond.methodLink "HerOrders$House" 121 Lib.Math.abs.name ∈ lw_tbl := List.mem_of_getElem? (i := 421) (by decide +kernel)
set_option maxRecDepth 100000 in
theorem mq_st_abs : Cond.static Lib.Math.abs.name ∈ lw_tbl := List.mem_of_getElem? (i := 422) (by decide +kernel)
set_option maxRecDepth 100000 in
theorem mq_co_abs : Cond.code Lib.Math.abs.name Lib.Math.abs.code 1 (some .int) ∈ lw_tbl := List.mem_of_getElem? (i := 423) (by decide +kernel)
set_option maxRecDepth 100000 in
theorem ml_hs_109 : sm_ML "HerOrders$House" 109 ⟨"HerOrders$House", "isFree", "(I)Z"⟩ := Or.inl (List.mem_of_getElem? (i := 417) (by decide +kernel))
set_option maxRecDepth 100000 in
theorem ml_hs_113 : sm_ML "HerOrders$House" 113 ⟨"HerOrders$House", "lastWord", "()I"⟩ := Or.inl (List.mem_of_getElem? (i := 424) (by decide +kernel))
set_option maxRecDepth 100000 in
theorem ml_hs_117 : sm_ML "HerOrders$House" 117 ⟨"HerOrders$House", "isAble", "(IIII)Z"⟩ := Or.inl (List.mem_of_getElem? (i := 428) (by decide +kernel))
set_option maxRecDepth 100000 in
theorem ml_hs_82 : sm_ML "HerOrders$House" 82 ⟨"HerOrders$House", "can", "(II)Z"⟩ := Or.inl (List.mem_of_getElem? (i := 486) (by decide +kernel))
set_option maxRecDepth 100000 in
theorem ml_hs_126 : sm_ML "HerOrders$House" 126 ⟨"HerOrders$House", "sayable", "(I)I"⟩ := Or.inl (List.mem_of_getElem? (i := 695) (by decide +kernel))
set_option maxRecDepth 100000 in
theorem ml_hs_132 : sm_ML "HerOrders$House" 132 ⟨"HerOrders", "isOf", "(II)Z"⟩ := Or.inr ⟨"HerOrders", List.mem_of_getElem? (i := 774) (by decide +kernel)⟩
set_option maxRecDepth 100000 in
theorem fl_de_21 : sm_FL "HerOrders$Deeds" 21 0 3 := ⟨RX0, TX0, 4, rfl, by decide, rfl, sm_inX0, Or.inl (List.mem_of_getElem? (i := 125) (by decide +kernel))⟩
set_option maxRecDepth 100000 in
theorem ml_ho_182 : sm_ML "HerOrders" 182 ⟨"HerOrders$Deeds", "isMissing", "()Z"⟩ := Or.inr ⟨"HerOrders", List.mem_of_getElem? (i := 470) (by decide +kernel)⟩
set_option maxRecDepth 100000 in
theorem fl_ho_135 : sm_FL "HerOrders" 135 1 7 := ⟨RX1, TX1, 13, rfl, by decide, rfl, sm_inX1, Or.inr ⟨"HerOrders", List.mem_of_getElem? (i := 158) (by decide +kernel)⟩⟩
set_option maxRecDepth 100000 in
theorem fl_ho_171 : sm_FL "HerOrders" 171 1 12 := ⟨RX1, TX1, 13, rfl, by decide, rfl, sm_inX1, Or.inr ⟨"HerOrders", List.mem_of_getElem? (i := 170) (by decide +kernel)⟩⟩
set_option maxRecDepth 100000 in
theorem fl_ho_114 : sm_FL "HerOrders" 114 0 3 := ⟨RX0, TX0, 4, rfl, by decide, rfl, sm_inX0, Or.inr ⟨"HerOrders", List.mem_of_getElem? (i := 127) (by decide +kernel)⟩⟩
set_option maxRecDepth 100000 in
theorem fl_ho_162 : sm_FL "HerOrders" 162 1 11 := ⟨RX1, TX1, 13, rfl, by decide, rfl, sm_inX1, Or.inr ⟨"HerOrders", List.mem_of_getElem? (i := 168) (by decide +kernel)⟩⟩
set_option maxRecDepth 100000 in
theorem fl_ho_368 : sm_FL "HerOrders" 368 1 8 := ⟨RX1, TX1, 13, rfl, by decide, rfl, sm_inX1, Or.inr ⟨"HerOrders", List.mem_of_getElem? (i := 160) (by decide +kernel)⟩⟩
set_option maxRecDepth 100000 in
theorem ml_ho_371 : sm_ML "HerOrders" 371 ⟨"HerOrders$House", "breathLeft", "()I"⟩ := Or.inr ⟨"HerOrders", List.mem_of_getElem? (i := 762) (by decide +kernel)⟩
set_option maxRecDepth 100000 in
theorem ml_ho_374 : sm_ML "HerOrders" 374 ⟨"HerOrders$House", "sayableByAny", "()I"⟩ := Or.inr ⟨"HerOrders", List.mem_of_getElem? (i := 766) (by decide +kernel)⟩
set_option maxRecDepth 100000 in
theorem ml_ho_377 : sm_ML "HerOrders" 377 ⟨"HerOrders$House", "parrots", "()I"⟩ := Or.inr ⟨"HerOrders", List.mem_of_getElem? (i := 770) (by decide +kernel)⟩
set_option maxRecDepth 100000 in
theorem fl_ho_11 : sm_FL "HerOrders" 11 6 0 := ⟨RX6, TX6, 7, rfl, by decide, rfl, sm_inX6, Or.inl (List.mem_of_getElem? (i := 302) (by decide +kernel))⟩
set_option maxRecDepth 100000 in
theorem ml_ho_380 : sm_ML "HerOrders" 380 ⟨"HerOrders", "present", "([LHerOrders$Row;)I"⟩ := Or.inl (List.mem_of_getElem? (i := 777) (by decide +kernel))
set_option maxRecDepth 100000 in
theorem ml_ho_384 : sm_ML "HerOrders" 384 ⟨"HerOrders", "keptHouses", "()I"⟩ := Or.inl (List.mem_of_getElem? (i := 780) (by decide +kernel))
set_option maxRecDepth 100000 in
theorem ml_hs_129 : sm_ML "HerOrders$House" 129 ⟨"HerOrders$House", "saidBy", "(I)I"⟩ := Or.inl (List.mem_of_getElem? (i := 799) (by decide +kernel))
set_option maxRecDepth 100000 in
theorem ml_hs_137 : sm_ML "HerOrders$House" 137 ⟨"HerOrders$House", "factOf", "(II)I"⟩ := Or.inl (List.mem_of_getElem? (i := 795) (by decide +kernel))
set_option maxRecDepth 100000 in
theorem ml_rw_36 : sm_ML "HerOrders$Row" 36 ⟨"HerOrders$Row", "isMissing", "()Z"⟩ := Or.inl (List.mem_of_getElem? (i := 807) (by decide +kernel))
set_option maxRecDepth 100000 in
theorem ml_ho_324 : sm_ML "HerOrders" 324 ⟨"HerOrders$Row", "mixedInto", "(J)J"⟩ := Or.inr ⟨"HerOrders", List.mem_of_getElem? (i := 803) (by decide +kernel)⟩
set_option maxRecDepth 100000 in
theorem ml_ho_320 : sm_ML "HerOrders" 320 ⟨"HerOrders$House", "mixedInto", "(J)J"⟩ := Or.inr ⟨"HerOrders", List.mem_of_getElem? (i := 790) (by decide +kernel)⟩
set_option maxRecDepth 100000 in
theorem ml_ho_307 : sm_ML "HerOrders" 307 ⟨"HerOrders", "tally", "(I)I"⟩ := Or.inl (List.mem_of_getElem? (i := 758) (by decide +kernel))
set_option maxRecDepth 100000 in
theorem fl_de_9 : sm_FL "HerOrders$Deeds" 9 0 0 := ⟨RX0, TX0, 4, rfl, by decide, rfl, sm_inX0, Or.inl (List.mem_of_getElem? (i := 119) (by decide +kernel))⟩
set_option maxRecDepth 100000 in
theorem fl_de_15 : sm_FL "HerOrders$Deeds" 15 0 1 := ⟨RX0, TX0, 4, rfl, by decide, rfl, sm_inX0, Or.inl (List.mem_of_getElem? (i := 121) (by decide +kernel))⟩
set_option maxRecDepth 100000 in
theorem fl_de_18 : sm_FL "HerOrders$Deeds" 18 0 2 := ⟨RX0, TX0, 4, rfl, by decide, rfl, sm_inX0, Or.inl (List.mem_of_getElem? (i := 123) (by decide +kernel))⟩
set_option maxRecDepth 100000 in
theorem fp_de_21 : sm_FP "HerOrders$Deeds" 21 0 3 .int := ⟨RX0, TX0, 4, tyX0, rfl, by decide, rfl, sm_inX0, tyX0_ok, nmX0, rfl, by decide +kernel, Or.inl (List.mem_of_getElem? (i := 125) (by decide +kernel))⟩
set_option maxRecDepth 100000 in
theorem ml_ho_178 : sm_ML "HerOrders" 178 ⟨"HerOrders$Deeds", "become", "(LHerOrders$Deeds;)V"⟩ := Or.inr ⟨"HerOrders", List.mem_of_getElem? (i := 462) (by decide +kernel)⟩
abbrev mi_hs_breathLeft : sm_MI := (⟨"HerOrders$House", "breathLeft", "()I"⟩, prog_3_method_26_code, 3, (some .int), 1)
set_option maxRecDepth 100000 in
theorem mf_hs_breathLeft : sm_MF mi_hs_breathLeft 0 := ⟨List.mem_of_getElem? (i := 765) (by decide +kernel), List.mem_of_getElem? (i := 73) (by decide +kernel), ⟨by decide, by decide⟩, by decide +kernel⟩
set_option maxRecDepth 100000 in
theorem mv_hs_breathLeft : sm_MFV mi_hs_breathLeft := ⟨List.mem_of_getElem? (i := 764) (by decide +kernel), List.mem_of_getElem? (i := 60) (by decide +kernel)⟩
set_option maxRecDepth 100000 in
theorem ii_hs_breathLeft_0 : sm_D prog_3_method_26_code 0 1 1 (.iconst 0) := ⟨by decide +kernel, rfl⟩
set_option maxRecDepth 100000 in
theorem ii_hs_breathLeft_1 : sm_D prog_3_method_26_code 1 1 2 (.istore_n 1) := ⟨by decide +kernel, rfl⟩
set_option maxRecDepth 100000 in
theorem ii_hs_breathLeft_2 : sm_D prog_3_method_26_code 2 1 3 (.iconst 0) := ⟨by decide +kernel, rfl⟩
set_option maxRecDepth 100000 in
theorem ii_hs_breathLeft_3 : sm_D prog_3_method_26_code 3 1 4 (.istore_n 2) := ⟨by decide +kernel, rfl⟩
set_option maxRecDepth 100000 in
theorem ii_hs_breathLeft_4 : sm_D prog_3_method_26_code 4 1 5 (.iload_n 2) := ⟨by decide +kernel, rfl⟩
set_option maxRecDepth 100000 in
theorem ii_hs_breathLeft_5 : sm_D prog_3_method_26_code 5 1 6 (.aload_n 0) := ⟨by decide +kernel, rfl⟩
set_option maxRecDepth 100000 in
theorem ii_hs_breathLeft_6 : sm_D prog_3_method_26_code 6 3 9 (.getfield 45) := ⟨by decide +kernel, rfl⟩
set_option maxRecDepth 100000 in
theorem ii_hs_breathLeft_9 : sm_D prog_3_method_26_code 9 3 12 (.if_icmp .ge 18) := ⟨by decide +kernel, rfl⟩
set_option maxRecDepth 100000 in
theorem ii_hs_breathLeft_12 : sm_D prog_3_method_26_code 12 1 13 (.iload_n 1) := ⟨by decide +kernel, rfl⟩
set_option maxRecDepth 100000 in
theorem ii_hs_breathLeft_13 : sm_D prog_3_method_26_code 13 1 14 (.aload_n 0) := ⟨by decide +kernel, rfl⟩
set_option maxRecDepth 100000 in
theorem ii_hs_breathLeft_14 : sm_D prog_3_method_26_code 14 3 17 (.getfield 27) := ⟨by decide +kernel, rfl⟩
set_option maxRecDepth 100000 in
theorem ii_hs_breathLeft_17 : sm_D prog_3_method_26_code 17 1 18 (.iload_n 2) := ⟨by decide +kernel, rfl⟩
set_option maxRecDepth 100000 in
theorem ii_hs_breathLeft_18 : sm_D prog_3_method_26_code 18 1 19 (.iaload) := ⟨by decide +kernel, rfl⟩
set_option maxRecDepth 100000 in
theorem ii_hs_breathLeft_19 : sm_D prog_3_method_26_code 19 1 20 (.iadd) := ⟨by decide +kernel, rfl⟩
set_option maxRecDepth 100000 in
theorem ii_hs_breathLeft_20 : sm_D prog_3_method_26_code 20 1 21 (.istore_n 1) := ⟨by decide +kernel, rfl⟩
set_option maxRecDepth 100000 in
theorem ii_hs_breathLeft_21 : sm_D prog_3_method_26_code 21 3 24 (.iinc 2 1) := ⟨by decide +kernel, rfl⟩
set_option maxRecDepth 100000 in
theorem ii_hs_breathLeft_24 : sm_D prog_3_method_26_code 24 3 27 (.goto (-20)) := ⟨by decide +kernel, rfl⟩
set_option maxRecDepth 100000 in
theorem ii_hs_breathLeft_27 : sm_D prog_3_method_26_code 27 1 28 (.iload_n 1) := ⟨by decide +kernel, rfl⟩
set_option maxRecDepth 100000 in
theorem ii_hs_breathLeft_28 : sm_D prog_3_method_26_code 28 1 29 (.ireturn) := ⟨by decide +kernel, rfl⟩
noncomputable def ff_hs_breathLeft_4_b  (self4 : Int32 → Int32 → sm_Mem → sm_R) (a1 : Int32) (a2 : Int32) (w : sm_Mem) : sm_R := (if (w.1 36 0) ≤ a2 then (some (.int a1, w)) else (Option.bind (sm_rd w 42 6 a2) fun x1 => self4 ((a1 + x1)) ((a2 + (1 : Int32))) w))
noncomputable def ff_hs_breathLeft_4_f  : Nat → Int32 → Int32 → sm_Mem → sm_R
  | 0, _, _, _ => none
  | n + 1, a1, a2, w => ff_hs_breathLeft_4_b  (ff_hs_breathLeft_4_f  n) a1 a2 w
noncomputable def ff_hs_breathLeft_4  (a1 : Int32) (a2 : Int32) (w : sm_Mem) : sm_R := ff_hs_breathLeft_4_f  sm_N a1 a2 w
set_option maxHeartbeats 4000000 in
set_option maxRecDepth 100000 in
theorem ss_hs_breathLeft_4_b {E : Nat × (Nat → Int32)}  (self4 : Int32 → Int32 → sm_Mem → sm_R) (hself4 : ∀ (a1 : Int32) (a2 : Int32) (w : sm_Mem), sm_Sim E (mi_hs_breathLeft) 4 [some (.ref 36), some (.int a1), some (.int a2)] [] w (self4 a1 a2 w)) (a1 : Int32) (a2 : Int32) (w : sm_Mem) : sm_Sim E (mi_hs_breathLeft) 4 [some (.ref 36), some (.int a1), some (.int a2)] [] w (ff_hs_breathLeft_4_b  self4 a1 a2 w) := by
  unfold ff_hs_breathLeft_4_b
  refine sm_iload_n ii_hs_breathLeft_4 rfl ?_
  refine sm_aload_n ii_hs_breathLeft_5 rfl ?_
  refine sm_getI ii_hs_breathLeft_6 fl_hs_45 (k := 36) rfl ?_
  refine sm_icmp_ge 27 ii_hs_breathLeft_9 (by decide) ?_ ?_
  · refine sm_iload_n ii_hs_breathLeft_27 rfl ?_
    exact sm_iret ii_hs_breathLeft_28 rfl
  · refine sm_iload_n ii_hs_breathLeft_12 rfl ?_
    refine sm_aload_n ii_hs_breathLeft_13 rfl ?_
    refine sm_getR 42 ii_hs_breathLeft_14 fl_hs_27 (k := 36) rfl ?_
    refine sm_iload_n ii_hs_breathLeft_17 rfl ?_
    refine sm_iald ii_hs_breathLeft_18 (k := 42) rfl (fun x1 => ?_)
    refine sm_iadd ii_hs_breathLeft_19 ?_
    refine sm_istore_n [some (.ref 36), some (.int (a1 + x1)), some (.int a2)] ii_hs_breathLeft_20 rfl rfl ?_
    refine sm_iinc (a2 + (1 : Int32)) [some (.ref 36), some (.int (a1 + x1)), some (.int (a2 + (1 : Int32)))] ii_hs_breathLeft_21 rfl rfl rfl rfl ?_
    refine sm_goto 4 ii_hs_breathLeft_24 (by decide) ?_
    exact hself4 ((a1 + x1)) ((a2 + (1 : Int32))) w
set_option maxHeartbeats 4000000 in
set_option maxRecDepth 100000 in
theorem ss_hs_breathLeft_4_f {E : Nat × (Nat → Int32)}  : ∀ (n : Nat) (a1 : Int32) (a2 : Int32) (w : sm_Mem), sm_Sim E (mi_hs_breathLeft) 4 [some (.ref 36), some (.int a1), some (.int a2)] [] w (ff_hs_breathLeft_4_f  n a1 a2 w)
  | 0, _, _, _ => fun _ _ h => by cases h
  | n + 1, a1, a2, w => ss_hs_breathLeft_4_b  _ (ss_hs_breathLeft_4_f  n) a1 a2 w
set_option maxHeartbeats 4000000 in
set_option maxRecDepth 100000 in
theorem ss_hs_breathLeft_4 {E : Nat × (Nat → Int32)}  (a1 : Int32) (a2 : Int32) (w : sm_Mem) : sm_Sim E (mi_hs_breathLeft) 4 [some (.ref 36), some (.int a1), some (.int a2)] [] w (ff_hs_breathLeft_4  a1 a2 w) := ss_hs_breathLeft_4_f  sm_N a1 a2 w
noncomputable def ff_hs_breathLeft   (w : sm_Mem) : sm_R := ff_hs_breathLeft_4 ((0 : Int32)) ((0 : Int32)) w
set_option maxHeartbeats 4000000 in
set_option maxRecDepth 100000 in
theorem ss_hs_breathLeft_0 {E : Nat × (Nat → Int32)}   (w : sm_Mem) : sm_Sim E (mi_hs_breathLeft) 0 [some (.ref 36), none, none] [] w (ff_hs_breathLeft   w) := by
  unfold ff_hs_breathLeft
  refine sm_iconst (0 : Int32) ii_hs_breathLeft_0 (by decide) ?_
  refine sm_istore_n [some (.ref 36), some (.int (0 : Int32)), none] ii_hs_breathLeft_1 rfl rfl ?_
  refine sm_iconst (0 : Int32) ii_hs_breathLeft_2 (by decide) ?_
  refine sm_istore_n [some (.ref 36), some (.int (0 : Int32)), some (.int (0 : Int32))] ii_hs_breathLeft_3 rfl rfl ?_
  exact ss_hs_breathLeft_4 ((0 : Int32)) ((0 : Int32)) w
set_option maxHeartbeats 4000000 in
set_option maxRecDepth 100000 in
theorem mc_hs_breathLeft {E : Nat × (Nat → Int32)}  (w : sm_Mem) : sm_MC E mi_hs_breathLeft [.ref 36] w (ff_hs_breathLeft  w) := sm_MC_of E (by decide +kernel) rfl (Nat.le_of_ble_eq_true rfl) (ss_hs_breathLeft_0  w)
abbrev mi_hs_isFree : sm_MI := (⟨"HerOrders$House", "isFree", "(I)Z"⟩, prog_3_method_15_code, 3, (some .boolean), 1)
set_option maxRecDepth 100000 in
theorem mf_hs_isFree : sm_MF mi_hs_isFree 1 := ⟨List.mem_of_getElem? (i := 420) (by decide +kernel), List.mem_of_getElem? (i := 73) (by decide +kernel), ⟨by decide, by decide⟩, by decide +kernel⟩
set_option maxRecDepth 100000 in
theorem mv_hs_isFree : sm_MFV mi_hs_isFree := ⟨List.mem_of_getElem? (i := 419) (by decide +kernel), List.mem_of_getElem? (i := 12) (by decide +kernel)⟩
set_option maxRecDepth 100000 in
theorem ii_hs_isFree_0 : sm_D prog_3_method_15_code 0 1 1 (.aload_n 0) := ⟨by decide +kernel, rfl⟩
set_option maxRecDepth 100000 in
theorem ii_hs_isFree_1 : sm_D prog_3_method_15_code 1 3 4 (.getfield 89) := ⟨by decide +kernel, rfl⟩
set_option maxRecDepth 100000 in
theorem ii_hs_isFree_4 : sm_D prog_3_method_15_code 4 2 6 (.bipush 8) := ⟨by decide +kernel, rfl⟩
set_option maxRecDepth 100000 in
theorem ii_hs_isFree_6 : sm_D prog_3_method_15_code 6 3 9 (.if_icmp .ge 12) := ⟨by decide +kernel, rfl⟩
set_option maxRecDepth 100000 in
theorem ii_hs_isFree_9 : sm_D prog_3_method_15_code 9 1 10 (.aload_n 0) := ⟨by decide +kernel, rfl⟩
set_option maxRecDepth 100000 in
theorem ii_hs_isFree_10 : sm_D prog_3_method_15_code 10 3 13 (.getfield 27) := ⟨by decide +kernel, rfl⟩
set_option maxRecDepth 100000 in
theorem ii_hs_isFree_13 : sm_D prog_3_method_15_code 13 1 14 (.iload_n 1) := ⟨by decide +kernel, rfl⟩
set_option maxRecDepth 100000 in
theorem ii_hs_isFree_14 : sm_D prog_3_method_15_code 14 1 15 (.iaload) := ⟨by decide +kernel, rfl⟩
set_option maxRecDepth 100000 in
theorem ii_hs_isFree_15 : sm_D prog_3_method_15_code 15 3 18 (.ifCond .gt 5) := ⟨by decide +kernel, rfl⟩
set_option maxRecDepth 100000 in
theorem ii_hs_isFree_18 : sm_D prog_3_method_15_code 18 1 19 (.iconst 0) := ⟨by decide +kernel, rfl⟩
set_option maxRecDepth 100000 in
theorem ii_hs_isFree_19 : sm_D prog_3_method_15_code 19 1 20 (.ireturn) := ⟨by decide +kernel, rfl⟩
set_option maxRecDepth 100000 in
theorem ii_hs_isFree_20 : sm_D prog_3_method_15_code 20 1 21 (.aload_n 0) := ⟨by decide +kernel, rfl⟩
set_option maxRecDepth 100000 in
theorem ii_hs_isFree_21 : sm_D prog_3_method_15_code 21 3 24 (.getfield 89) := ⟨by decide +kernel, rfl⟩
set_option maxRecDepth 100000 in
theorem ii_hs_isFree_24 : sm_D prog_3_method_15_code 24 3 27 (.ifCond .ne 5) := ⟨by decide +kernel, rfl⟩
set_option maxRecDepth 100000 in
theorem ii_hs_isFree_27 : sm_D prog_3_method_15_code 27 1 28 (.iconst 1) := ⟨by decide +kernel, rfl⟩
set_option maxRecDepth 100000 in
theorem ii_hs_isFree_28 : sm_D prog_3_method_15_code 28 1 29 (.ireturn) := ⟨by decide +kernel, rfl⟩
set_option maxRecDepth 100000 in
theorem ii_hs_isFree_29 : sm_D prog_3_method_15_code 29 1 30 (.aload_n 0) := ⟨by decide +kernel, rfl⟩
set_option maxRecDepth 100000 in
theorem ii_hs_isFree_30 : sm_D prog_3_method_15_code 30 3 33 (.getfield 33) := ⟨by decide +kernel, rfl⟩
set_option maxRecDepth 100000 in
theorem ii_hs_isFree_33 : sm_D prog_3_method_15_code 33 1 34 (.aload_n 0) := ⟨by decide +kernel, rfl⟩
set_option maxRecDepth 100000 in
theorem ii_hs_isFree_34 : sm_D prog_3_method_15_code 34 3 37 (.getfield 89) := ⟨by decide +kernel, rfl⟩
set_option maxRecDepth 100000 in
theorem ii_hs_isFree_37 : sm_D prog_3_method_15_code 37 1 38 (.iconst 1) := ⟨by decide +kernel, rfl⟩
set_option maxRecDepth 100000 in
theorem ii_hs_isFree_38 : sm_D prog_3_method_15_code 38 1 39 (.isub) := ⟨by decide +kernel, rfl⟩
set_option maxRecDepth 100000 in
theorem ii_hs_isFree_39 : sm_D prog_3_method_15_code 39 1 40 (.iaload) := ⟨by decide +kernel, rfl⟩
set_option maxRecDepth 100000 in
theorem ii_hs_isFree_40 : sm_D prog_3_method_15_code 40 1 41 (.istore_n 2) := ⟨by decide +kernel, rfl⟩
set_option maxRecDepth 100000 in
theorem ii_hs_isFree_41 : sm_D prog_3_method_15_code 41 1 42 (.iload_n 2) := ⟨by decide +kernel, rfl⟩
set_option maxRecDepth 100000 in
theorem ii_hs_isFree_42 : sm_D prog_3_method_15_code 42 1 43 (.iload_n 1) := ⟨by decide +kernel, rfl⟩
set_option maxRecDepth 100000 in
theorem ii_hs_isFree_43 : sm_D prog_3_method_15_code 43 3 46 (.if_icmp .eq 27) := ⟨by decide +kernel, rfl⟩
set_option maxRecDepth 100000 in
theorem ii_hs_isFree_46 : sm_D prog_3_method_15_code 46 1 47 (.aload_n 0) := ⟨by decide +kernel, rfl⟩
set_option maxRecDepth 100000 in
theorem ii_hs_isFree_47 : sm_D prog_3_method_15_code 47 3 50 (.getfield 24) := ⟨by decide +kernel, rfl⟩
set_option maxRecDepth 100000 in
theorem ii_hs_isFree_50 : sm_D prog_3_method_15_code 50 1 51 (.iload_n 2) := ⟨by decide +kernel, rfl⟩
set_option maxRecDepth 100000 in
theorem ii_hs_isFree_51 : sm_D prog_3_method_15_code 51 1 52 (.iaload) := ⟨by decide +kernel, rfl⟩
set_option maxRecDepth 100000 in
theorem ii_hs_isFree_52 : sm_D prog_3_method_15_code 52 1 53 (.aload_n 0) := ⟨by decide +kernel, rfl⟩
set_option maxRecDepth 100000 in
theorem ii_hs_isFree_53 : sm_D prog_3_method_15_code 53 3 56 (.getfield 24) := ⟨by decide +kernel, rfl⟩
set_option maxRecDepth 100000 in
theorem ii_hs_isFree_56 : sm_D prog_3_method_15_code 56 1 57 (.iload_n 1) := ⟨by decide +kernel, rfl⟩
set_option maxRecDepth 100000 in
theorem ii_hs_isFree_57 : sm_D prog_3_method_15_code 57 1 58 (.iaload) := ⟨by decide +kernel, rfl⟩
set_option maxRecDepth 100000 in
theorem ii_hs_isFree_58 : sm_D prog_3_method_15_code 58 1 59 (.isub) := ⟨by decide +kernel, rfl⟩
set_option maxRecDepth 100000 in
theorem ii_hs_isFree_59 : sm_D prog_3_method_15_code 59 3 62 (.invokestatic 121) := ⟨by decide +kernel, rfl⟩
set_option maxRecDepth 100000 in
theorem ii_hs_isFree_62 : sm_D prog_3_method_15_code 62 1 63 (.iconst 1) := ⟨by decide +kernel, rfl⟩
set_option maxRecDepth 100000 in
theorem ii_hs_isFree_63 : sm_D prog_3_method_15_code 63 3 66 (.if_icmp .gt 7) := ⟨by decide +kernel, rfl⟩
set_option maxRecDepth 100000 in
theorem ii_hs_isFree_66 : sm_D prog_3_method_15_code 66 1 67 (.iconst 1) := ⟨by decide +kernel, rfl⟩
set_option maxRecDepth 100000 in
theorem ii_hs_isFree_67 : sm_D prog_3_method_15_code 67 3 70 (.goto 4) := ⟨by decide +kernel, rfl⟩
set_option maxRecDepth 100000 in
theorem ii_hs_isFree_70 : sm_D prog_3_method_15_code 70 1 71 (.iconst 0) := ⟨by decide +kernel, rfl⟩
set_option maxRecDepth 100000 in
theorem ii_hs_isFree_71 : sm_D prog_3_method_15_code 71 1 72 (.ireturn) := ⟨by decide +kernel, rfl⟩
noncomputable def ff_hs_isFree  (a1 : Int32) (w : sm_Mem) : sm_R := (if (8 : Int32) ≤ (w.1 36 11) then (some (.int (0 : Int32), w)) else (Option.bind (sm_rd w 42 6 a1) fun x1 => (if (0 : Int32) < x1 then (if (w.1 36 11) = (0 : Int32) then (some (.int (1 : Int32), w)) else (Option.bind (sm_rd w 44 8 ((w.1 36 11) - (1 : Int32))) fun x2 => (if x2 = a1 then (some (.int (0 : Int32), w)) else (Option.bind (sm_rd w 41 6 x2) fun x3 => (Option.bind (sm_rd w 41 6 a1) fun x4 => (if (1 : Int32) < (if (0 : Int32) ≤ (x3 - x4) then (x3 - x4) else (0 : Int32) - (x3 - x4)) then (some (.int (0 : Int32), w)) else (some (.int (1 : Int32), w)))))))) else (some (.int (0 : Int32), w)))))
set_option maxHeartbeats 4000000 in
set_option maxRecDepth 100000 in
theorem ss_hs_isFree_0 {E : Nat × (Nat → Int32)}  (a1 : Int32) (w : sm_Mem) : sm_Sim E (mi_hs_isFree) 0 [some (.ref 36), some (.int a1), none] [] w (ff_hs_isFree  a1 w) := by
  unfold ff_hs_isFree
  refine sm_aload_n ii_hs_isFree_0 rfl ?_
  refine sm_getI ii_hs_isFree_1 fl_hs_89 (k := 36) rfl ?_
  refine sm_bipush (8 : Int32) ii_hs_isFree_4 (by decide) ?_
  refine sm_icmp_ge 18 ii_hs_isFree_6 (by decide) ?_ ?_
  · refine sm_iconst (0 : Int32) ii_hs_isFree_18 (by decide) ?_
    exact sm_zret1 ii_hs_isFree_19 rfl (by decide)
  · refine sm_aload_n ii_hs_isFree_9 rfl ?_
    refine sm_getR 42 ii_hs_isFree_10 fl_hs_27 (k := 36) rfl ?_
    refine sm_iload_n ii_hs_isFree_13 rfl ?_
    refine sm_iald ii_hs_isFree_14 (k := 42) rfl (fun x1 => ?_)
    refine sm_if_gt 20 ii_hs_isFree_15 (by decide) ?_ ?_
    · refine sm_aload_n ii_hs_isFree_20 rfl ?_
      refine sm_getI ii_hs_isFree_21 fl_hs_89 (k := 36) rfl ?_
      refine sm_if_ne 29 ii_hs_isFree_24 (by decide) ?_ ?_
      · refine sm_iconst (1 : Int32) ii_hs_isFree_27 (by decide) ?_
        exact sm_zret1 ii_hs_isFree_28 rfl (by decide)
      · refine sm_aload_n ii_hs_isFree_29 rfl ?_
        refine sm_getR 44 ii_hs_isFree_30 fl_hs_33 (k := 36) rfl ?_
        refine sm_aload_n ii_hs_isFree_33 rfl ?_
        refine sm_getI ii_hs_isFree_34 fl_hs_89 (k := 36) rfl ?_
        refine sm_iconst (1 : Int32) ii_hs_isFree_37 (by decide) ?_
        refine sm_isub ii_hs_isFree_38 ?_
        refine sm_iald ii_hs_isFree_39 (k := 44) rfl (fun x2 => ?_)
        refine sm_istore_n [some (.ref 36), some (.int a1), some (.int x2)] ii_hs_isFree_40 rfl rfl ?_
        refine sm_iload_n ii_hs_isFree_41 rfl ?_
        refine sm_iload_n ii_hs_isFree_42 rfl ?_
        refine sm_icmp_eq 70 ii_hs_isFree_43 (by decide) ?_ ?_
        · refine sm_iconst (0 : Int32) ii_hs_isFree_70 (by decide) ?_
          exact sm_zret1 ii_hs_isFree_71 rfl (by decide)
        · refine sm_aload_n ii_hs_isFree_46 rfl ?_
          refine sm_getR 41 ii_hs_isFree_47 fl_hs_24 (k := 36) rfl ?_
          refine sm_iload_n ii_hs_isFree_50 rfl ?_
          refine sm_iald ii_hs_isFree_51 (k := 41) rfl (fun x3 => ?_)
          refine sm_aload_n ii_hs_isFree_52 rfl ?_
          refine sm_getR 41 ii_hs_isFree_53 fl_hs_24 (k := 36) rfl ?_
          refine sm_iload_n ii_hs_isFree_56 rfl ?_
          refine sm_iald ii_hs_isFree_57 (k := 41) rfl (fun x4 => ?_)
          refine sm_isub ii_hs_isFree_58 ?_
          refine sm_mabs ii_hs_isFree_59 mq_hs_121 mq_st_abs mq_in mq_co_abs (by decide) rfl ?_
          refine sm_iconst (1 : Int32) ii_hs_isFree_62 (by decide) ?_
          refine sm_icmp_gt 70 ii_hs_isFree_63 (by decide) ?_ ?_
          · refine sm_iconst (0 : Int32) ii_hs_isFree_70 (by decide) ?_
            exact sm_zret1 ii_hs_isFree_71 rfl (by decide)
          · refine sm_iconst (1 : Int32) ii_hs_isFree_66 (by decide) ?_
            refine sm_goto 71 ii_hs_isFree_67 (by decide) ?_
            exact sm_zret1 ii_hs_isFree_71 rfl (by decide)
    · refine sm_iconst (0 : Int32) ii_hs_isFree_18 (by decide) ?_
      exact sm_zret1 ii_hs_isFree_19 rfl (by decide)
set_option maxHeartbeats 4000000 in
set_option maxRecDepth 100000 in
theorem mc_hs_isFree {E : Nat × (Nat → Int32)} (a1 : Int32) (w : sm_Mem) : sm_MC E mi_hs_isFree [.ref 36, .int a1] w (ff_hs_isFree a1 w) := sm_MC_of E (by decide +kernel) rfl (Nat.le_of_ble_eq_true rfl) (ss_hs_isFree_0 a1 w)
abbrev mi_hs_lastWord : sm_MI := (⟨"HerOrders$House", "lastWord", "()I"⟩, prog_3_method_13_code, 1, (some .int), 1)
set_option maxRecDepth 100000 in
theorem mf_hs_lastWord : sm_MF mi_hs_lastWord 0 := ⟨List.mem_of_getElem? (i := 427) (by decide +kernel), List.mem_of_getElem? (i := 73) (by decide +kernel), ⟨by decide, by decide⟩, by decide +kernel⟩
set_option maxRecDepth 100000 in
theorem mv_hs_lastWord : sm_MFV mi_hs_lastWord := ⟨List.mem_of_getElem? (i := 426) (by decide +kernel), List.mem_of_getElem? (i := 13) (by decide +kernel)⟩
set_option maxRecDepth 100000 in
theorem ii_hs_lastWord_0 : sm_D prog_3_method_13_code 0 1 1 (.aload_n 0) := ⟨by decide +kernel, rfl⟩
set_option maxRecDepth 100000 in
theorem ii_hs_lastWord_1 : sm_D prog_3_method_13_code 1 3 4 (.getfield 89) := ⟨by decide +kernel, rfl⟩
set_option maxRecDepth 100000 in
theorem ii_hs_lastWord_4 : sm_D prog_3_method_13_code 4 3 7 (.ifCond .le 17) := ⟨by decide +kernel, rfl⟩
set_option maxRecDepth 100000 in
theorem ii_hs_lastWord_7 : sm_D prog_3_method_13_code 7 1 8 (.aload_n 0) := ⟨by decide +kernel, rfl⟩
set_option maxRecDepth 100000 in
theorem ii_hs_lastWord_8 : sm_D prog_3_method_13_code 8 3 11 (.getfield 30) := ⟨by decide +kernel, rfl⟩
set_option maxRecDepth 100000 in
theorem ii_hs_lastWord_11 : sm_D prog_3_method_13_code 11 1 12 (.aload_n 0) := ⟨by decide +kernel, rfl⟩
set_option maxRecDepth 100000 in
theorem ii_hs_lastWord_12 : sm_D prog_3_method_13_code 12 3 15 (.getfield 89) := ⟨by decide +kernel, rfl⟩
set_option maxRecDepth 100000 in
theorem ii_hs_lastWord_15 : sm_D prog_3_method_13_code 15 1 16 (.iconst 1) := ⟨by decide +kernel, rfl⟩
set_option maxRecDepth 100000 in
theorem ii_hs_lastWord_16 : sm_D prog_3_method_13_code 16 1 17 (.isub) := ⟨by decide +kernel, rfl⟩
set_option maxRecDepth 100000 in
theorem ii_hs_lastWord_17 : sm_D prog_3_method_13_code 17 1 18 (.iaload) := ⟨by decide +kernel, rfl⟩
set_option maxRecDepth 100000 in
theorem ii_hs_lastWord_18 : sm_D prog_3_method_13_code 18 3 21 (.goto 5) := ⟨by decide +kernel, rfl⟩
set_option maxRecDepth 100000 in
theorem ii_hs_lastWord_21 : sm_D prog_3_method_13_code 21 2 23 (.bipush (-9)) := ⟨by decide +kernel, rfl⟩
set_option maxRecDepth 100000 in
theorem ii_hs_lastWord_23 : sm_D prog_3_method_13_code 23 1 24 (.ireturn) := ⟨by decide +kernel, rfl⟩
noncomputable def ff_hs_lastWord   (w : sm_Mem) : sm_R := (if (w.1 36 11) ≤ (0 : Int32) then (some (.int (-9 : Int32), w)) else (Option.bind (sm_rd w 43 8 ((w.1 36 11) - (1 : Int32))) fun x1 => (some (.int x1, w))))
set_option maxHeartbeats 4000000 in
set_option maxRecDepth 100000 in
theorem ss_hs_lastWord_0 {E : Nat × (Nat → Int32)}   (w : sm_Mem) : sm_Sim E (mi_hs_lastWord) 0 [some (.ref 36)] [] w (ff_hs_lastWord   w) := by
  unfold ff_hs_lastWord
  refine sm_aload_n ii_hs_lastWord_0 rfl ?_
  refine sm_getI ii_hs_lastWord_1 fl_hs_89 (k := 36) rfl ?_
  refine sm_if_le 21 ii_hs_lastWord_4 (by decide) ?_ ?_
  · refine sm_bipush (-9 : Int32) ii_hs_lastWord_21 (by decide) ?_
    exact sm_iret ii_hs_lastWord_23 rfl
  · refine sm_aload_n ii_hs_lastWord_7 rfl ?_
    refine sm_getR 43 ii_hs_lastWord_8 fl_hs_30 (k := 36) rfl ?_
    refine sm_aload_n ii_hs_lastWord_11 rfl ?_
    refine sm_getI ii_hs_lastWord_12 fl_hs_89 (k := 36) rfl ?_
    refine sm_iconst (1 : Int32) ii_hs_lastWord_15 (by decide) ?_
    refine sm_isub ii_hs_lastWord_16 ?_
    refine sm_iald ii_hs_lastWord_17 (k := 43) rfl (fun x1 => ?_)
    refine sm_goto 23 ii_hs_lastWord_18 (by decide) ?_
    exact sm_iret ii_hs_lastWord_23 rfl
set_option maxHeartbeats 4000000 in
set_option maxRecDepth 100000 in
theorem mc_hs_lastWord {E : Nat × (Nat → Int32)}  (w : sm_Mem) : sm_MC E mi_hs_lastWord [.ref 36] w (ff_hs_lastWord  w) := sm_MC_of E (by decide +kernel) rfl (Nat.le_of_ble_eq_true rfl) (ss_hs_lastWord_0  w)
abbrev mi_hs_isAble : sm_MI := (⟨"HerOrders$House", "isAble", "(IIII)Z"⟩, prog_3_method_16_code, 6, (some .boolean), 1)
set_option maxRecDepth 100000 in
theorem mf_hs_isAble : sm_MF mi_hs_isAble 4 := ⟨List.mem_of_getElem? (i := 431) (by decide +kernel), List.mem_of_getElem? (i := 73) (by decide +kernel), ⟨by decide, by decide⟩, by decide +kernel⟩
set_option maxRecDepth 100000 in
theorem mv_hs_isAble : sm_MFV mi_hs_isAble := ⟨List.mem_of_getElem? (i := 430) (by decide +kernel), List.mem_of_getElem? (i := 14) (by decide +kernel)⟩
set_option maxRecDepth 100000 in
theorem ii_hs_isAble_0 : sm_D prog_3_method_16_code 0 1 1 (.aload_n 0) := ⟨by decide +kernel, rfl⟩
set_option maxRecDepth 100000 in
theorem ii_hs_isAble_1 : sm_D prog_3_method_16_code 1 3 4 (.getfield 15) := ⟨by decide +kernel, rfl⟩
set_option maxRecDepth 100000 in
theorem ii_hs_isAble_4 : sm_D prog_3_method_16_code 4 1 5 (.iload_n 1) := ⟨by decide +kernel, rfl⟩
set_option maxRecDepth 100000 in
theorem ii_hs_isAble_5 : sm_D prog_3_method_16_code 5 1 6 (.iaload) := ⟨by decide +kernel, rfl⟩
set_option maxRecDepth 100000 in
theorem ii_hs_isAble_6 : sm_D prog_3_method_16_code 6 2 8 (.iload 4) := ⟨by decide +kernel, rfl⟩
set_option maxRecDepth 100000 in
theorem ii_hs_isAble_8 : sm_D prog_3_method_16_code 8 1 9 (.ishr) := ⟨by decide +kernel, rfl⟩
set_option maxRecDepth 100000 in
theorem ii_hs_isAble_9 : sm_D prog_3_method_16_code 9 1 10 (.iconst 1) := ⟨by decide +kernel, rfl⟩
set_option maxRecDepth 100000 in
theorem ii_hs_isAble_10 : sm_D prog_3_method_16_code 10 1 11 (.iand) := ⟨by decide +kernel, rfl⟩
set_option maxRecDepth 100000 in
theorem ii_hs_isAble_11 : sm_D prog_3_method_16_code 11 3 14 (.ifCond .eq 7) := ⟨by decide +kernel, rfl⟩
set_option maxRecDepth 100000 in
theorem ii_hs_isAble_14 : sm_D prog_3_method_16_code 14 1 15 (.iconst 1) := ⟨by decide +kernel, rfl⟩
set_option maxRecDepth 100000 in
theorem ii_hs_isAble_15 : sm_D prog_3_method_16_code 15 3 18 (.goto 4) := ⟨by decide +kernel, rfl⟩
set_option maxRecDepth 100000 in
theorem ii_hs_isAble_18 : sm_D prog_3_method_16_code 18 1 19 (.iconst 0) := ⟨by decide +kernel, rfl⟩
set_option maxRecDepth 100000 in
theorem ii_hs_isAble_19 : sm_D prog_3_method_16_code 19 2 21 (.istore 5) := ⟨by decide +kernel, rfl⟩
set_option maxRecDepth 100000 in
theorem ii_hs_isAble_21 : sm_D prog_3_method_16_code 21 1 22 (.iload_n 2) := ⟨by decide +kernel, rfl⟩
set_option maxRecDepth 100000 in
theorem ii_hs_isAble_22 : sm_D prog_3_method_16_code 22 34 56 (.tableswitch 147 1 5 #[34, 51, 71, 88, 113]) := ⟨by decide +kernel, rfl⟩
set_option maxRecDepth 100000 in
theorem ii_hs_isAble_56 : sm_D prog_3_method_16_code 56 2 58 (.iload 5) := ⟨by decide +kernel, rfl⟩
set_option maxRecDepth 100000 in
theorem ii_hs_isAble_58 : sm_D prog_3_method_16_code 58 3 61 (.ifCond .ne 9) := ⟨by decide +kernel, rfl⟩
set_option maxRecDepth 100000 in
theorem ii_hs_isAble_61 : sm_D prog_3_method_16_code 61 2 63 (.iload 4) := ⟨by decide +kernel, rfl⟩
set_option maxRecDepth 100000 in
theorem ii_hs_isAble_63 : sm_D prog_3_method_16_code 63 1 64 (.iload_n 3) := ⟨by decide +kernel, rfl⟩
set_option maxRecDepth 100000 in
theorem ii_hs_isAble_64 : sm_D prog_3_method_16_code 64 3 67 (.if_icmp .ne 7) := ⟨by decide +kernel, rfl⟩
set_option maxRecDepth 100000 in
theorem ii_hs_isAble_67 : sm_D prog_3_method_16_code 67 1 68 (.iconst 1) := ⟨by decide +kernel, rfl⟩
set_option maxRecDepth 100000 in
theorem ii_hs_isAble_68 : sm_D prog_3_method_16_code 68 3 71 (.goto 4) := ⟨by decide +kernel, rfl⟩
set_option maxRecDepth 100000 in
theorem ii_hs_isAble_71 : sm_D prog_3_method_16_code 71 1 72 (.iconst 0) := ⟨by decide +kernel, rfl⟩
set_option maxRecDepth 100000 in
theorem ii_hs_isAble_72 : sm_D prog_3_method_16_code 72 1 73 (.ireturn) := ⟨by decide +kernel, rfl⟩
set_option maxRecDepth 100000 in
theorem ii_hs_isAble_73 : sm_D prog_3_method_16_code 73 2 75 (.iload 5) := ⟨by decide +kernel, rfl⟩
set_option maxRecDepth 100000 in
theorem ii_hs_isAble_75 : sm_D prog_3_method_16_code 75 3 78 (.ifCond .eq 16) := ⟨by decide +kernel, rfl⟩
set_option maxRecDepth 100000 in
theorem ii_hs_isAble_78 : sm_D prog_3_method_16_code 78 1 79 (.aload_n 0) := ⟨by decide +kernel, rfl⟩
set_option maxRecDepth 100000 in
theorem ii_hs_isAble_79 : sm_D prog_3_method_16_code 79 3 82 (.getfield 97) := ⟨by decide +kernel, rfl⟩
set_option maxRecDepth 100000 in
theorem ii_hs_isAble_82 : sm_D prog_3_method_16_code 82 1 83 (.iconst 2) := ⟨by decide +kernel, rfl⟩
set_option maxRecDepth 100000 in
theorem ii_hs_isAble_83 : sm_D prog_3_method_16_code 83 1 84 (.irem) := ⟨by decide +kernel, rfl⟩
set_option maxRecDepth 100000 in
theorem ii_hs_isAble_84 : sm_D prog_3_method_16_code 84 3 87 (.ifCond .ne 7) := ⟨by decide +kernel, rfl⟩
set_option maxRecDepth 100000 in
theorem ii_hs_isAble_87 : sm_D prog_3_method_16_code 87 1 88 (.iconst 1) := ⟨by decide +kernel, rfl⟩
set_option maxRecDepth 100000 in
theorem ii_hs_isAble_88 : sm_D prog_3_method_16_code 88 3 91 (.goto 4) := ⟨by decide +kernel, rfl⟩
set_option maxRecDepth 100000 in
theorem ii_hs_isAble_91 : sm_D prog_3_method_16_code 91 1 92 (.iconst 0) := ⟨by decide +kernel, rfl⟩
set_option maxRecDepth 100000 in
theorem ii_hs_isAble_92 : sm_D prog_3_method_16_code 92 1 93 (.ireturn) := ⟨by decide +kernel, rfl⟩
set_option maxRecDepth 100000 in
theorem ii_hs_isAble_93 : sm_D prog_3_method_16_code 93 2 95 (.iload 5) := ⟨by decide +kernel, rfl⟩
set_option maxRecDepth 100000 in
theorem ii_hs_isAble_95 : sm_D prog_3_method_16_code 95 3 98 (.ifCond .eq 13) := ⟨by decide +kernel, rfl⟩
set_option maxRecDepth 100000 in
theorem ii_hs_isAble_98 : sm_D prog_3_method_16_code 98 1 99 (.iload_n 3) := ⟨by decide +kernel, rfl⟩
set_option maxRecDepth 100000 in
theorem ii_hs_isAble_99 : sm_D prog_3_method_16_code 99 2 101 (.bipush (-9)) := ⟨by decide +kernel, rfl⟩
set_option maxRecDepth 100000 in
theorem ii_hs_isAble_101 : sm_D prog_3_method_16_code 101 3 104 (.if_icmp .eq 7) := ⟨by decide +kernel, rfl⟩
set_option maxRecDepth 100000 in
theorem ii_hs_isAble_104 : sm_D prog_3_method_16_code 104 1 105 (.iconst 1) := ⟨by decide +kernel, rfl⟩
set_option maxRecDepth 100000 in
theorem ii_hs_isAble_105 : sm_D prog_3_method_16_code 105 3 108 (.goto 4) := ⟨by decide +kernel, rfl⟩
set_option maxRecDepth 100000 in
theorem ii_hs_isAble_108 : sm_D prog_3_method_16_code 108 1 109 (.iconst 0) := ⟨by decide +kernel, rfl⟩
set_option maxRecDepth 100000 in
theorem ii_hs_isAble_109 : sm_D prog_3_method_16_code 109 1 110 (.ireturn) := ⟨by decide +kernel, rfl⟩
set_option maxRecDepth 100000 in
theorem ii_hs_isAble_110 : sm_D prog_3_method_16_code 110 2 112 (.iload 5) := ⟨by decide +kernel, rfl⟩
set_option maxRecDepth 100000 in
theorem ii_hs_isAble_112 : sm_D prog_3_method_16_code 112 3 115 (.ifCond .eq 21) := ⟨by decide +kernel, rfl⟩
set_option maxRecDepth 100000 in
theorem ii_hs_isAble_115 : sm_D prog_3_method_16_code 115 1 116 (.iload_n 3) := ⟨by decide +kernel, rfl⟩
set_option maxRecDepth 100000 in
theorem ii_hs_isAble_116 : sm_D prog_3_method_16_code 116 2 118 (.bipush (-9)) := ⟨by decide +kernel, rfl⟩
set_option maxRecDepth 100000 in
theorem ii_hs_isAble_118 : sm_D prog_3_method_16_code 118 3 121 (.if_icmp .eq 15) := ⟨by decide +kernel, rfl⟩
set_option maxRecDepth 100000 in
theorem ii_hs_isAble_121 : sm_D prog_3_method_16_code 121 2 123 (.iload 4) := ⟨by decide +kernel, rfl⟩
set_option maxRecDepth 100000 in
theorem ii_hs_isAble_123 : sm_D prog_3_method_16_code 123 1 124 (.iconst 2) := ⟨by decide +kernel, rfl⟩
set_option maxRecDepth 100000 in
theorem ii_hs_isAble_124 : sm_D prog_3_method_16_code 124 1 125 (.irem) := ⟨by decide +kernel, rfl⟩
set_option maxRecDepth 100000 in
theorem ii_hs_isAble_125 : sm_D prog_3_method_16_code 125 1 126 (.iconst 1) := ⟨by decide +kernel, rfl⟩
set_option maxRecDepth 100000 in
theorem ii_hs_isAble_126 : sm_D prog_3_method_16_code 126 3 129 (.if_icmp .ne 7) := ⟨by decide +kernel, rfl⟩
set_option maxRecDepth 100000 in
theorem ii_hs_isAble_129 : sm_D prog_3_method_16_code 129 1 130 (.iconst 1) := ⟨by decide +kernel, rfl⟩
set_option maxRecDepth 100000 in
theorem ii_hs_isAble_130 : sm_D prog_3_method_16_code 130 3 133 (.goto 4) := ⟨by decide +kernel, rfl⟩
set_option maxRecDepth 100000 in
theorem ii_hs_isAble_133 : sm_D prog_3_method_16_code 133 1 134 (.iconst 0) := ⟨by decide +kernel, rfl⟩
set_option maxRecDepth 100000 in
theorem ii_hs_isAble_134 : sm_D prog_3_method_16_code 134 1 135 (.ireturn) := ⟨by decide +kernel, rfl⟩
set_option maxRecDepth 100000 in
theorem ii_hs_isAble_135 : sm_D prog_3_method_16_code 135 2 137 (.iload 5) := ⟨by decide +kernel, rfl⟩
set_option maxRecDepth 100000 in
theorem ii_hs_isAble_137 : sm_D prog_3_method_16_code 137 3 140 (.ifCond .ne 26) := ⟨by decide +kernel, rfl⟩
set_option maxRecDepth 100000 in
theorem ii_hs_isAble_140 : sm_D prog_3_method_16_code 140 1 141 (.iload_n 3) := ⟨by decide +kernel, rfl⟩
set_option maxRecDepth 100000 in
theorem ii_hs_isAble_141 : sm_D prog_3_method_16_code 141 2 143 (.bipush (-9)) := ⟨by decide +kernel, rfl⟩
set_option maxRecDepth 100000 in
theorem ii_hs_isAble_143 : sm_D prog_3_method_16_code 143 3 146 (.if_icmp .eq 24) := ⟨by decide +kernel, rfl⟩
set_option maxRecDepth 100000 in
theorem ii_hs_isAble_146 : sm_D prog_3_method_16_code 146 2 148 (.iload 4) := ⟨by decide +kernel, rfl⟩
set_option maxRecDepth 100000 in
theorem ii_hs_isAble_148 : sm_D prog_3_method_16_code 148 1 149 (.iload_n 3) := ⟨by decide +kernel, rfl⟩
set_option maxRecDepth 100000 in
theorem ii_hs_isAble_149 : sm_D prog_3_method_16_code 149 3 152 (.if_icmp .eq 14) := ⟨by decide +kernel, rfl⟩
set_option maxRecDepth 100000 in
theorem ii_hs_isAble_152 : sm_D prog_3_method_16_code 152 2 154 (.iload 4) := ⟨by decide +kernel, rfl⟩
set_option maxRecDepth 100000 in
theorem ii_hs_isAble_154 : sm_D prog_3_method_16_code 154 1 155 (.iload_n 3) := ⟨by decide +kernel, rfl⟩
set_option maxRecDepth 100000 in
theorem ii_hs_isAble_155 : sm_D prog_3_method_16_code 155 1 156 (.iconst 1) := ⟨by decide +kernel, rfl⟩
set_option maxRecDepth 100000 in
theorem ii_hs_isAble_156 : sm_D prog_3_method_16_code 156 1 157 (.iadd) := ⟨by decide +kernel, rfl⟩
set_option maxRecDepth 100000 in
theorem ii_hs_isAble_157 : sm_D prog_3_method_16_code 157 2 159 (.bipush 6) := ⟨by decide +kernel, rfl⟩
set_option maxRecDepth 100000 in
theorem ii_hs_isAble_159 : sm_D prog_3_method_16_code 159 1 160 (.irem) := ⟨by decide +kernel, rfl⟩
set_option maxRecDepth 100000 in
theorem ii_hs_isAble_160 : sm_D prog_3_method_16_code 160 3 163 (.if_icmp .ne 7) := ⟨by decide +kernel, rfl⟩
set_option maxRecDepth 100000 in
theorem ii_hs_isAble_163 : sm_D prog_3_method_16_code 163 1 164 (.iconst 1) := ⟨by decide +kernel, rfl⟩
set_option maxRecDepth 100000 in
theorem ii_hs_isAble_164 : sm_D prog_3_method_16_code 164 3 167 (.goto 4) := ⟨by decide +kernel, rfl⟩
set_option maxRecDepth 100000 in
theorem ii_hs_isAble_167 : sm_D prog_3_method_16_code 167 1 168 (.iconst 0) := ⟨by decide +kernel, rfl⟩
set_option maxRecDepth 100000 in
theorem ii_hs_isAble_168 : sm_D prog_3_method_16_code 168 1 169 (.ireturn) := ⟨by decide +kernel, rfl⟩
set_option maxRecDepth 100000 in
theorem ii_hs_isAble_169 : sm_D prog_3_method_16_code 169 2 171 (.iload 5) := ⟨by decide +kernel, rfl⟩
set_option maxRecDepth 100000 in
theorem ii_hs_isAble_171 : sm_D prog_3_method_16_code 171 1 172 (.ireturn) := ⟨by decide +kernel, rfl⟩
noncomputable def ff_hs_isAble_19  (a2 : Int32) (a3 : Int32) (a4 : Int32) (b0 : Int32) (w : sm_Mem) : sm_R := (sm_sw a2 (1) [((if b0 = (0 : Int32) then (if a4 = a3 then (some (.int (1 : Int32), w)) else (some (.int (0 : Int32), w))) else (some (.int (1 : Int32), w)))), ((if b0 = (0 : Int32) then (some (.int (0 : Int32), w)) else (if (2 : Int32) = (0 : Int32) then none else (if ((w.1 36 7) - (w.1 36 7) / (2 : Int32) * (2 : Int32)) = (0 : Int32) then (some (.int (1 : Int32), w)) else (some (.int (0 : Int32), w)))))), ((if b0 = (0 : Int32) then (some (.int (0 : Int32), w)) else (if a3 = (-9 : Int32) then (some (.int (0 : Int32), w)) else (some (.int (1 : Int32), w))))), ((if b0 = (0 : Int32) then (some (.int (0 : Int32), w)) else (if a3 = (-9 : Int32) then (some (.int (0 : Int32), w)) else (if (2 : Int32) = (0 : Int32) then none else (if (a4 - a4 / (2 : Int32) * (2 : Int32)) = (1 : Int32) then (some (.int (1 : Int32), w)) else (some (.int (0 : Int32), w))))))), ((if b0 = (0 : Int32) then (if a3 = (-9 : Int32) then (some (.int (0 : Int32), w)) else (if a4 = a3 then (some (.int (1 : Int32), w)) else (if (6 : Int32) = (0 : Int32) then none else (if a4 = ((a3 + (1 : Int32)) - (a3 + (1 : Int32)) / (6 : Int32) * (6 : Int32)) then (some (.int (1 : Int32), w)) else (some (.int (0 : Int32), w)))))) else (some (.int (1 : Int32), w))))] ((sm_rz b0 w)))
set_option maxHeartbeats 4000000 in
set_option maxRecDepth 100000 in
theorem ss_hs_isAble_19 {E : Nat × (Nat → Int32)}  (a2 : Int32) (a3 : Int32) (a4 : Int32) (b0 : Int32) (w : sm_Mem) : sm_Sim E (mi_hs_isAble) 19 [some (.ref 36), none, some (.int a2), some (.int a3), some (.int a4), none] [.int b0] w (ff_hs_isAble_19  a2 a3 a4 b0 w) := by
  unfold ff_hs_isAble_19
  refine sm_istore [some (.ref 36), none, some (.int a2), some (.int a3), some (.int a4), some (.int b0)] ii_hs_isAble_19 rfl rfl ?_
  refine sm_iload_n ii_hs_isAble_21 rfl ?_
  refine sm_table [56, 73, 93, 110, 135] 169 ii_hs_isAble_22 rfl rfl rfl ⟨?_, ?_, ?_, ?_, ?_, trivial⟩ ?_
  · refine sm_iload ii_hs_isAble_56 rfl ?_
    refine sm_if_ne 67 ii_hs_isAble_58 (by decide) ?_ ?_
    · refine sm_iload ii_hs_isAble_61 rfl ?_
      refine sm_iload_n ii_hs_isAble_63 rfl ?_
      refine sm_icmp_ne 71 ii_hs_isAble_64 (by decide) ?_ ?_
      · refine sm_iconst (1 : Int32) ii_hs_isAble_67 (by decide) ?_
        refine sm_goto 72 ii_hs_isAble_68 (by decide) ?_
        exact sm_zret1 ii_hs_isAble_72 rfl (by decide)
      · refine sm_iconst (0 : Int32) ii_hs_isAble_71 (by decide) ?_
        exact sm_zret1 ii_hs_isAble_72 rfl (by decide)
    · refine sm_iconst (1 : Int32) ii_hs_isAble_67 (by decide) ?_
      refine sm_goto 72 ii_hs_isAble_68 (by decide) ?_
      exact sm_zret1 ii_hs_isAble_72 rfl (by decide)
  · refine sm_iload ii_hs_isAble_73 rfl ?_
    refine sm_if_eq 91 ii_hs_isAble_75 (by decide) ?_ ?_
    · refine sm_iconst (0 : Int32) ii_hs_isAble_91 (by decide) ?_
      exact sm_zret1 ii_hs_isAble_92 rfl (by decide)
    · refine sm_aload_n ii_hs_isAble_78 rfl ?_
      refine sm_getI ii_hs_isAble_79 fl_hs_97 (k := 36) rfl ?_
      refine sm_iconst (2 : Int32) ii_hs_isAble_82 (by decide) ?_
      refine sm_irem ii_hs_isAble_83 ?_
      refine sm_if_ne 91 ii_hs_isAble_84 (by decide) ?_ ?_
      · refine sm_iconst (1 : Int32) ii_hs_isAble_87 (by decide) ?_
        refine sm_goto 92 ii_hs_isAble_88 (by decide) ?_
        exact sm_zret1 ii_hs_isAble_92 rfl (by decide)
      · refine sm_iconst (0 : Int32) ii_hs_isAble_91 (by decide) ?_
        exact sm_zret1 ii_hs_isAble_92 rfl (by decide)
  · refine sm_iload ii_hs_isAble_93 rfl ?_
    refine sm_if_eq 108 ii_hs_isAble_95 (by decide) ?_ ?_
    · refine sm_iconst (0 : Int32) ii_hs_isAble_108 (by decide) ?_
      exact sm_zret1 ii_hs_isAble_109 rfl (by decide)
    · refine sm_iload_n ii_hs_isAble_98 rfl ?_
      refine sm_bipush (-9 : Int32) ii_hs_isAble_99 (by decide) ?_
      refine sm_icmp_eq 108 ii_hs_isAble_101 (by decide) ?_ ?_
      · refine sm_iconst (0 : Int32) ii_hs_isAble_108 (by decide) ?_
        exact sm_zret1 ii_hs_isAble_109 rfl (by decide)
      · refine sm_iconst (1 : Int32) ii_hs_isAble_104 (by decide) ?_
        refine sm_goto 109 ii_hs_isAble_105 (by decide) ?_
        exact sm_zret1 ii_hs_isAble_109 rfl (by decide)
  · refine sm_iload ii_hs_isAble_110 rfl ?_
    refine sm_if_eq 133 ii_hs_isAble_112 (by decide) ?_ ?_
    · refine sm_iconst (0 : Int32) ii_hs_isAble_133 (by decide) ?_
      exact sm_zret1 ii_hs_isAble_134 rfl (by decide)
    · refine sm_iload_n ii_hs_isAble_115 rfl ?_
      refine sm_bipush (-9 : Int32) ii_hs_isAble_116 (by decide) ?_
      refine sm_icmp_eq 133 ii_hs_isAble_118 (by decide) ?_ ?_
      · refine sm_iconst (0 : Int32) ii_hs_isAble_133 (by decide) ?_
        exact sm_zret1 ii_hs_isAble_134 rfl (by decide)
      · refine sm_iload ii_hs_isAble_121 rfl ?_
        refine sm_iconst (2 : Int32) ii_hs_isAble_123 (by decide) ?_
        refine sm_irem ii_hs_isAble_124 ?_
        refine sm_iconst (1 : Int32) ii_hs_isAble_125 (by decide) ?_
        refine sm_icmp_ne 133 ii_hs_isAble_126 (by decide) ?_ ?_
        · refine sm_iconst (1 : Int32) ii_hs_isAble_129 (by decide) ?_
          refine sm_goto 134 ii_hs_isAble_130 (by decide) ?_
          exact sm_zret1 ii_hs_isAble_134 rfl (by decide)
        · refine sm_iconst (0 : Int32) ii_hs_isAble_133 (by decide) ?_
          exact sm_zret1 ii_hs_isAble_134 rfl (by decide)
  · refine sm_iload ii_hs_isAble_135 rfl ?_
    refine sm_if_ne 163 ii_hs_isAble_137 (by decide) ?_ ?_
    · refine sm_iload_n ii_hs_isAble_140 rfl ?_
      refine sm_bipush (-9 : Int32) ii_hs_isAble_141 (by decide) ?_
      refine sm_icmp_eq 167 ii_hs_isAble_143 (by decide) ?_ ?_
      · refine sm_iconst (0 : Int32) ii_hs_isAble_167 (by decide) ?_
        exact sm_zret1 ii_hs_isAble_168 rfl (by decide)
      · refine sm_iload ii_hs_isAble_146 rfl ?_
        refine sm_iload_n ii_hs_isAble_148 rfl ?_
        refine sm_icmp_eq 163 ii_hs_isAble_149 (by decide) ?_ ?_
        · refine sm_iconst (1 : Int32) ii_hs_isAble_163 (by decide) ?_
          refine sm_goto 168 ii_hs_isAble_164 (by decide) ?_
          exact sm_zret1 ii_hs_isAble_168 rfl (by decide)
        · refine sm_iload ii_hs_isAble_152 rfl ?_
          refine sm_iload_n ii_hs_isAble_154 rfl ?_
          refine sm_iconst (1 : Int32) ii_hs_isAble_155 (by decide) ?_
          refine sm_iadd ii_hs_isAble_156 ?_
          refine sm_bipush (6 : Int32) ii_hs_isAble_157 (by decide) ?_
          refine sm_irem ii_hs_isAble_159 ?_
          refine sm_icmp_ne 167 ii_hs_isAble_160 (by decide) ?_ ?_
          · refine sm_iconst (1 : Int32) ii_hs_isAble_163 (by decide) ?_
            refine sm_goto 168 ii_hs_isAble_164 (by decide) ?_
            exact sm_zret1 ii_hs_isAble_168 rfl (by decide)
          · refine sm_iconst (0 : Int32) ii_hs_isAble_167 (by decide) ?_
            exact sm_zret1 ii_hs_isAble_168 rfl (by decide)
    · refine sm_iconst (1 : Int32) ii_hs_isAble_163 (by decide) ?_
      refine sm_goto 168 ii_hs_isAble_164 (by decide) ?_
      exact sm_zret1 ii_hs_isAble_168 rfl (by decide)
  · refine sm_iload ii_hs_isAble_169 rfl ?_
    exact sm_zret ii_hs_isAble_171 rfl
noncomputable def ff_hs_isAble  (a1 : Int32) (a2 : Int32) (a3 : Int32) (a4 : Int32) (w : sm_Mem) : sm_R := (Option.bind (sm_rd w 38 6 a1) fun x4 => (if ((x4 >>> (a4 &&& (31 : Int32))) &&& (1 : Int32)) = (0 : Int32) then ff_hs_isAble_19 (a2) (a3) (a4) ((0 : Int32)) w else ff_hs_isAble_19 (a2) (a3) (a4) ((1 : Int32)) w))
set_option maxHeartbeats 4000000 in
set_option maxRecDepth 100000 in
theorem ss_hs_isAble_0 {E : Nat × (Nat → Int32)}  (a1 : Int32) (a2 : Int32) (a3 : Int32) (a4 : Int32) (w : sm_Mem) : sm_Sim E (mi_hs_isAble) 0 [some (.ref 36), some (.int a1), some (.int a2), some (.int a3), some (.int a4), none] [] w (ff_hs_isAble  a1 a2 a3 a4 w) := by
  unfold ff_hs_isAble
  refine sm_aload_n ii_hs_isAble_0 rfl ?_
  refine sm_getR 38 ii_hs_isAble_1 fl_hs_15 (k := 36) rfl ?_
  refine sm_iload_n ii_hs_isAble_4 rfl ?_
  refine sm_iald ii_hs_isAble_5 (k := 38) rfl (fun x4 => ?_)
  refine sm_iload ii_hs_isAble_6 rfl ?_
  refine sm_ishr ii_hs_isAble_8 ?_
  refine sm_iconst (1 : Int32) ii_hs_isAble_9 (by decide) ?_
  refine sm_iand ii_hs_isAble_10 ?_
  refine sm_if_eq 18 ii_hs_isAble_11 (by decide) ?_ ?_
  · refine sm_iconst (0 : Int32) ii_hs_isAble_18 (by decide) ?_
    refine sm_msk [true, false, true, true, true, false] [some (.ref 36), none, some (.int a2), some (.int a3), some (.int a4), none] rfl ?_
    exact ss_hs_isAble_19 (a2) (a3) (a4) ((0 : Int32)) w
  · refine sm_iconst (1 : Int32) ii_hs_isAble_14 (by decide) ?_
    refine sm_goto 19 ii_hs_isAble_15 (by decide) ?_
    refine sm_msk [true, false, true, true, true, false] [some (.ref 36), none, some (.int a2), some (.int a3), some (.int a4), none] rfl ?_
    exact ss_hs_isAble_19 (a2) (a3) (a4) ((1 : Int32)) w
set_option maxHeartbeats 4000000 in
set_option maxRecDepth 100000 in
theorem mc_hs_isAble {E : Nat × (Nat → Int32)} (a1 : Int32) (a2 : Int32) (a3 : Int32) (a4 : Int32) (w : sm_Mem) : sm_MC E mi_hs_isAble [.ref 36, .int a1, .int a2, .int a3, .int a4] w (ff_hs_isAble a1 a2 a3 a4 w) := sm_MC_of E (by decide +kernel) rfl (Nat.le_of_ble_eq_true rfl) (ss_hs_isAble_0 a1 a2 a3 a4 w)
abbrev mi_hs_can : sm_MI := (⟨"HerOrders$House", "can", "(II)Z"⟩, prog_3_method_14_code, 3, (some .boolean), 2)
set_option maxRecDepth 100000 in
theorem mf_hs_can : sm_MF mi_hs_can 2 := ⟨List.mem_of_getElem? (i := 416) (by decide +kernel), List.mem_of_getElem? (i := 73) (by decide +kernel), ⟨by decide, by decide⟩, by decide +kernel⟩
set_option maxRecDepth 100000 in
theorem mv_hs_can : sm_MFV mi_hs_can := ⟨List.mem_of_getElem? (i := 415) (by decide +kernel), List.mem_of_getElem? (i := 11) (by decide +kernel)⟩
set_option maxRecDepth 100000 in
theorem ii_hs_can_0 : sm_D prog_3_method_14_code 0 1 1 (.aload_n 0) := ⟨by decide +kernel, rfl⟩
set_option maxRecDepth 100000 in
theorem ii_hs_can_1 : sm_D prog_3_method_14_code 1 1 2 (.iload_n 1) := ⟨by decide +kernel, rfl⟩
set_option maxRecDepth 100000 in
theorem ii_hs_can_2 : sm_D prog_3_method_14_code 2 3 5 (.invokevirtual 109) := ⟨by decide +kernel, rfl⟩
set_option maxRecDepth 100000 in
theorem ii_hs_can_5 : sm_D prog_3_method_14_code 5 3 8 (.ifCond .eq 26) := ⟨by decide +kernel, rfl⟩
set_option maxRecDepth 100000 in
theorem ii_hs_can_8 : sm_D prog_3_method_14_code 8 1 9 (.aload_n 0) := ⟨by decide +kernel, rfl⟩
set_option maxRecDepth 100000 in
theorem ii_hs_can_9 : sm_D prog_3_method_14_code 9 1 10 (.iload_n 1) := ⟨by decide +kernel, rfl⟩
set_option maxRecDepth 100000 in
theorem ii_hs_can_10 : sm_D prog_3_method_14_code 10 1 11 (.aload_n 0) := ⟨by decide +kernel, rfl⟩
set_option maxRecDepth 100000 in
theorem ii_hs_can_11 : sm_D prog_3_method_14_code 11 3 14 (.getfield 9) := ⟨by decide +kernel, rfl⟩
set_option maxRecDepth 100000 in
theorem ii_hs_can_14 : sm_D prog_3_method_14_code 14 1 15 (.iload_n 1) := ⟨by decide +kernel, rfl⟩
set_option maxRecDepth 100000 in
theorem ii_hs_can_15 : sm_D prog_3_method_14_code 15 1 16 (.iaload) := ⟨by decide +kernel, rfl⟩
set_option maxRecDepth 100000 in
theorem ii_hs_can_16 : sm_D prog_3_method_14_code 16 1 17 (.aload_n 0) := ⟨by decide +kernel, rfl⟩
set_option maxRecDepth 100000 in
theorem ii_hs_can_17 : sm_D prog_3_method_14_code 17 3 20 (.invokevirtual 113) := ⟨by decide +kernel, rfl⟩
set_option maxRecDepth 100000 in
theorem ii_hs_can_20 : sm_D prog_3_method_14_code 20 1 21 (.iload_n 2) := ⟨by decide +kernel, rfl⟩
set_option maxRecDepth 100000 in
theorem ii_hs_can_21 : sm_D prog_3_method_14_code 21 3 24 (.invokevirtual 117) := ⟨by decide +kernel, rfl⟩
set_option maxRecDepth 100000 in
theorem ii_hs_can_24 : sm_D prog_3_method_14_code 24 3 27 (.ifCond .eq 7) := ⟨by decide +kernel, rfl⟩
set_option maxRecDepth 100000 in
theorem ii_hs_can_27 : sm_D prog_3_method_14_code 27 1 28 (.iconst 1) := ⟨by decide +kernel, rfl⟩
set_option maxRecDepth 100000 in
theorem ii_hs_can_28 : sm_D prog_3_method_14_code 28 3 31 (.goto 4) := ⟨by decide +kernel, rfl⟩
set_option maxRecDepth 100000 in
theorem ii_hs_can_31 : sm_D prog_3_method_14_code 31 1 32 (.iconst 0) := ⟨by decide +kernel, rfl⟩
set_option maxRecDepth 100000 in
theorem ii_hs_can_32 : sm_D prog_3_method_14_code 32 1 33 (.ireturn) := ⟨by decide +kernel, rfl⟩
noncomputable def ff_hs_can  (a1 : Int32) (a2 : Int32) (w : sm_Mem) : sm_R := (sm_cI (ff_hs_isFree (a1) w) fun x1 w2 => (if x1 = (0 : Int32) then (some (.int (0 : Int32), w2)) else (Option.bind (sm_rd w2 37 6 a1) fun x3 => (sm_cI (ff_hs_lastWord  w2) fun x4 w5 => (sm_cI (ff_hs_isAble (a1) (x3) (x4) (a2) w5) fun x6 w7 => (if x6 = (0 : Int32) then (some (.int (0 : Int32), w7)) else (some (.int (1 : Int32), w7))))))))
set_option maxHeartbeats 4000000 in
set_option maxRecDepth 100000 in
theorem ss_hs_can_0 {E : Nat × (Nat → Int32)}  (a1 : Int32) (a2 : Int32) (w : sm_Mem) : sm_Sim E (mi_hs_can) 0 [some (.ref 36), some (.int a1), some (.int a2)] [] w (ff_hs_can  a1 a2 w) := by
  unfold ff_hs_can
  refine sm_aload_n ii_hs_can_0 rfl ?_
  refine sm_iload_n ii_hs_can_1 rfl ?_
  refine sm_cvI [.int a1] [] rfl ii_hs_can_2 ml_hs_109 (mf_hs_isFree) (mv_hs_isFree) (Nat.le_of_ble_eq_true rfl) rfl 1 rfl rfl rfl rfl (mc_hs_isFree (a1) w) (fun x1 w2 => ?_)
  refine sm_if_eq 31 ii_hs_can_5 (by decide) ?_ ?_
  · refine sm_iconst (0 : Int32) ii_hs_can_31 (by decide) ?_
    exact sm_zret1 ii_hs_can_32 rfl (by decide)
  · refine sm_aload_n ii_hs_can_8 rfl ?_
    refine sm_iload_n ii_hs_can_9 rfl ?_
    refine sm_aload_n ii_hs_can_10 rfl ?_
    refine sm_getR 37 ii_hs_can_11 fl_hs_9 (k := 36) rfl ?_
    refine sm_iload_n ii_hs_can_14 rfl ?_
    refine sm_iald ii_hs_can_15 (k := 37) rfl (fun x3 => ?_)
    refine sm_aload_n ii_hs_can_16 rfl ?_
    refine sm_cvI [] [.int x3, .int a1, .ref 36] rfl ii_hs_can_17 ml_hs_113 (mf_hs_lastWord) (mv_hs_lastWord) (Nat.le_of_ble_eq_true rfl) rfl 1 rfl rfl rfl rfl (mc_hs_lastWord  w2) (fun x4 w5 => ?_)
    refine sm_iload_n ii_hs_can_20 rfl ?_
    refine sm_cvI [.int a1, .int x3, .int x4, .int a2] [] rfl ii_hs_can_21 ml_hs_117 (mf_hs_isAble) (mv_hs_isAble) (Nat.le_of_ble_eq_true rfl) rfl 1 rfl rfl rfl rfl (mc_hs_isAble (a1) (x3) (x4) (a2) w5) (fun x6 w7 => ?_)
    refine sm_if_eq 31 ii_hs_can_24 (by decide) ?_ ?_
    · refine sm_iconst (0 : Int32) ii_hs_can_31 (by decide) ?_
      exact sm_zret1 ii_hs_can_32 rfl (by decide)
    · refine sm_iconst (1 : Int32) ii_hs_can_27 (by decide) ?_
      refine sm_goto 32 ii_hs_can_28 (by decide) ?_
      exact sm_zret1 ii_hs_can_32 rfl (by decide)
set_option maxHeartbeats 4000000 in
set_option maxRecDepth 100000 in
theorem mc_hs_can {E : Nat × (Nat → Int32)} (a1 : Int32) (a2 : Int32) (w : sm_Mem) : sm_MC E mi_hs_can [.ref 36, .int a1, .int a2] w (ff_hs_can a1 a2 w) := sm_MC_of E (by decide +kernel) rfl (Nat.le_of_ble_eq_true rfl) (ss_hs_can_0 a1 a2 w)
abbrev mi_hs_sayable : sm_MI := (⟨"HerOrders$House", "sayable", "(I)I"⟩, prog_3_method_17_code, 4, (some .int), 3)
set_option maxRecDepth 100000 in
theorem mf_hs_sayable : sm_MF mi_hs_sayable 1 := ⟨List.mem_of_getElem? (i := 485) (by decide +kernel), List.mem_of_getElem? (i := 73) (by decide +kernel), ⟨by decide, by decide⟩, by decide +kernel⟩
set_option maxRecDepth 100000 in
theorem mv_hs_sayable : sm_MFV mi_hs_sayable := ⟨List.mem_of_getElem? (i := 484) (by decide +kernel), List.mem_of_getElem? (i := 20) (by decide +kernel)⟩
set_option maxRecDepth 100000 in
theorem ii_hs_sayable_0 : sm_D prog_3_method_17_code 0 1 1 (.iconst 0) := ⟨by decide +kernel, rfl⟩
set_option maxRecDepth 100000 in
theorem ii_hs_sayable_1 : sm_D prog_3_method_17_code 1 1 2 (.istore_n 2) := ⟨by decide +kernel, rfl⟩
set_option maxRecDepth 100000 in
theorem ii_hs_sayable_2 : sm_D prog_3_method_17_code 2 1 3 (.iconst 0) := ⟨by decide +kernel, rfl⟩
set_option maxRecDepth 100000 in
theorem ii_hs_sayable_3 : sm_D prog_3_method_17_code 3 1 4 (.istore_n 3) := ⟨by decide +kernel, rfl⟩
set_option maxRecDepth 100000 in
theorem ii_hs_sayable_4 : sm_D prog_3_method_17_code 4 1 5 (.iload_n 3) := ⟨by decide +kernel, rfl⟩
set_option maxRecDepth 100000 in
theorem ii_hs_sayable_5 : sm_D prog_3_method_17_code 5 2 7 (.bipush 6) := ⟨by decide +kernel, rfl⟩
set_option maxRecDepth 100000 in
theorem ii_hs_sayable_7 : sm_D prog_3_method_17_code 7 3 10 (.if_icmp .ge 24) := ⟨by decide +kernel, rfl⟩
set_option maxRecDepth 100000 in
theorem ii_hs_sayable_10 : sm_D prog_3_method_17_code 10 1 11 (.aload_n 0) := ⟨by decide +kernel, rfl⟩
set_option maxRecDepth 100000 in
theorem ii_hs_sayable_11 : sm_D prog_3_method_17_code 11 1 12 (.iload_n 1) := ⟨by decide +kernel, rfl⟩
set_option maxRecDepth 100000 in
theorem ii_hs_sayable_12 : sm_D prog_3_method_17_code 12 1 13 (.iload_n 3) := ⟨by decide +kernel, rfl⟩
set_option maxRecDepth 100000 in
theorem ii_hs_sayable_13 : sm_D prog_3_method_17_code 13 3 16 (.invokevirtual 82) := ⟨by decide +kernel, rfl⟩
set_option maxRecDepth 100000 in
theorem ii_hs_sayable_16 : sm_D prog_3_method_17_code 16 3 19 (.ifCond .eq 9) := ⟨by decide +kernel, rfl⟩
set_option maxRecDepth 100000 in
theorem ii_hs_sayable_19 : sm_D prog_3_method_17_code 19 1 20 (.iload_n 2) := ⟨by decide +kernel, rfl⟩
set_option maxRecDepth 100000 in
theorem ii_hs_sayable_20 : sm_D prog_3_method_17_code 20 1 21 (.iconst 1) := ⟨by decide +kernel, rfl⟩
set_option maxRecDepth 100000 in
theorem ii_hs_sayable_21 : sm_D prog_3_method_17_code 21 1 22 (.iload_n 3) := ⟨by decide +kernel, rfl⟩
set_option maxRecDepth 100000 in
theorem ii_hs_sayable_22 : sm_D prog_3_method_17_code 22 1 23 (.ishl) := ⟨by decide +kernel, rfl⟩
set_option maxRecDepth 100000 in
theorem ii_hs_sayable_23 : sm_D prog_3_method_17_code 23 1 24 (.ior) := ⟨by decide +kernel, rfl⟩
set_option maxRecDepth 100000 in
theorem ii_hs_sayable_24 : sm_D prog_3_method_17_code 24 1 25 (.istore_n 2) := ⟨by decide +kernel, rfl⟩
set_option maxRecDepth 100000 in
theorem ii_hs_sayable_25 : sm_D prog_3_method_17_code 25 3 28 (.iinc 3 1) := ⟨by decide +kernel, rfl⟩
set_option maxRecDepth 100000 in
theorem ii_hs_sayable_28 : sm_D prog_3_method_17_code 28 3 31 (.goto (-24)) := ⟨by decide +kernel, rfl⟩
set_option maxRecDepth 100000 in
theorem ii_hs_sayable_31 : sm_D prog_3_method_17_code 31 1 32 (.iload_n 2) := ⟨by decide +kernel, rfl⟩
set_option maxRecDepth 100000 in
theorem ii_hs_sayable_32 : sm_D prog_3_method_17_code 32 1 33 (.ireturn) := ⟨by decide +kernel, rfl⟩
noncomputable def ff_hs_sayable_4_b  (self4 : Int32 → Int32 → Int32 → sm_Mem → sm_R) (a1 : Int32) (a2 : Int32) (a3 : Int32) (w : sm_Mem) : sm_R := (if (6 : Int32) ≤ a3 then (some (.int a2, w)) else (sm_cI (ff_hs_can (a1) (a3) w) fun x1 w2 => (if x1 = (0 : Int32) then self4 (a1) (a2) ((a3 + (1 : Int32))) w2 else self4 (a1) ((a2 ||| ((1 : Int32) <<< (a3 &&& (31 : Int32))))) ((a3 + (1 : Int32))) w2)))
noncomputable def ff_hs_sayable_4_f  : Nat → Int32 → Int32 → Int32 → sm_Mem → sm_R
  | 0, _, _, _, _ => none
  | n + 1, a1, a2, a3, w => ff_hs_sayable_4_b  (ff_hs_sayable_4_f  n) a1 a2 a3 w
noncomputable def ff_hs_sayable_4  (a1 : Int32) (a2 : Int32) (a3 : Int32) (w : sm_Mem) : sm_R := ff_hs_sayable_4_f  sm_N a1 a2 a3 w
set_option maxHeartbeats 4000000 in
set_option maxRecDepth 100000 in
theorem ss_hs_sayable_4_b {E : Nat × (Nat → Int32)}  (self4 : Int32 → Int32 → Int32 → sm_Mem → sm_R) (hself4 : ∀ (a1 : Int32) (a2 : Int32) (a3 : Int32) (w : sm_Mem), sm_Sim E (mi_hs_sayable) 4 [some (.ref 36), some (.int a1), some (.int a2), some (.int a3)] [] w (self4 a1 a2 a3 w)) (a1 : Int32) (a2 : Int32) (a3 : Int32) (w : sm_Mem) : sm_Sim E (mi_hs_sayable) 4 [some (.ref 36), some (.int a1), some (.int a2), some (.int a3)] [] w (ff_hs_sayable_4_b  self4 a1 a2 a3 w) := by
  unfold ff_hs_sayable_4_b
  refine sm_iload_n ii_hs_sayable_4 rfl ?_
  refine sm_bipush (6 : Int32) ii_hs_sayable_5 (by decide) ?_
  refine sm_icmp_ge 31 ii_hs_sayable_7 (by decide) ?_ ?_
  · refine sm_iload_n ii_hs_sayable_31 rfl ?_
    exact sm_iret ii_hs_sayable_32 rfl
  · refine sm_aload_n ii_hs_sayable_10 rfl ?_
    refine sm_iload_n ii_hs_sayable_11 rfl ?_
    refine sm_iload_n ii_hs_sayable_12 rfl ?_
    refine sm_cvI [.int a1, .int a3] [] rfl ii_hs_sayable_13 ml_hs_82 (mf_hs_can) (mv_hs_can) (Nat.le_of_ble_eq_true rfl) rfl 1 rfl rfl rfl rfl (mc_hs_can (a1) (a3) w) (fun x1 w2 => ?_)
    refine sm_if_eq 25 ii_hs_sayable_16 (by decide) ?_ ?_
    · refine sm_iinc (a3 + (1 : Int32)) [some (.ref 36), some (.int a1), some (.int a2), some (.int (a3 + (1 : Int32)))] ii_hs_sayable_25 rfl rfl rfl rfl ?_
      refine sm_goto 4 ii_hs_sayable_28 (by decide) ?_
      exact hself4 (a1) (a2) ((a3 + (1 : Int32))) w2
    · refine sm_iload_n ii_hs_sayable_19 rfl ?_
      refine sm_iconst (1 : Int32) ii_hs_sayable_20 (by decide) ?_
      refine sm_iload_n ii_hs_sayable_21 rfl ?_
      refine sm_ishl ii_hs_sayable_22 ?_
      refine sm_ior ii_hs_sayable_23 ?_
      refine sm_istore_n [some (.ref 36), some (.int a1), some (.int (a2 ||| ((1 : Int32) <<< (a3 &&& (31 : Int32))))), some (.int a3)] ii_hs_sayable_24 rfl rfl ?_
      refine sm_iinc (a3 + (1 : Int32)) [some (.ref 36), some (.int a1), some (.int (a2 ||| ((1 : Int32) <<< (a3 &&& (31 : Int32))))), some (.int (a3 + (1 : Int32)))] ii_hs_sayable_25 rfl rfl rfl rfl ?_
      refine sm_goto 4 ii_hs_sayable_28 (by decide) ?_
      exact hself4 (a1) ((a2 ||| ((1 : Int32) <<< (a3 &&& (31 : Int32))))) ((a3 + (1 : Int32))) w2
set_option maxHeartbeats 4000000 in
set_option maxRecDepth 100000 in
theorem ss_hs_sayable_4_f {E : Nat × (Nat → Int32)}  : ∀ (n : Nat) (a1 : Int32) (a2 : Int32) (a3 : Int32) (w : sm_Mem), sm_Sim E (mi_hs_sayable) 4 [some (.ref 36), some (.int a1), some (.int a2), some (.int a3)] [] w (ff_hs_sayable_4_f  n a1 a2 a3 w)
  | 0, _, _, _, _ => fun _ _ h => by cases h
  | n + 1, a1, a2, a3, w => ss_hs_sayable_4_b  _ (ss_hs_sayable_4_f  n) a1 a2 a3 w
set_option maxHeartbeats 4000000 in
set_option maxRecDepth 100000 in
theorem ss_hs_sayable_4 {E : Nat × (Nat → Int32)}  (a1 : Int32) (a2 : Int32) (a3 : Int32) (w : sm_Mem) : sm_Sim E (mi_hs_sayable) 4 [some (.ref 36), some (.int a1), some (.int a2), some (.int a3)] [] w (ff_hs_sayable_4  a1 a2 a3 w) := ss_hs_sayable_4_f  sm_N a1 a2 a3 w
noncomputable def ff_hs_sayable  (a1 : Int32) (w : sm_Mem) : sm_R := ff_hs_sayable_4 (a1) ((0 : Int32)) ((0 : Int32)) w
set_option maxHeartbeats 4000000 in
set_option maxRecDepth 100000 in
theorem ss_hs_sayable_0 {E : Nat × (Nat → Int32)}  (a1 : Int32) (w : sm_Mem) : sm_Sim E (mi_hs_sayable) 0 [some (.ref 36), some (.int a1), none, none] [] w (ff_hs_sayable  a1 w) := by
  unfold ff_hs_sayable
  refine sm_iconst (0 : Int32) ii_hs_sayable_0 (by decide) ?_
  refine sm_istore_n [some (.ref 36), some (.int a1), some (.int (0 : Int32)), none] ii_hs_sayable_1 rfl rfl ?_
  refine sm_iconst (0 : Int32) ii_hs_sayable_2 (by decide) ?_
  refine sm_istore_n [some (.ref 36), some (.int a1), some (.int (0 : Int32)), some (.int (0 : Int32))] ii_hs_sayable_3 rfl rfl ?_
  exact ss_hs_sayable_4 (a1) ((0 : Int32)) ((0 : Int32)) w
set_option maxHeartbeats 4000000 in
set_option maxRecDepth 100000 in
theorem mc_hs_sayable {E : Nat × (Nat → Int32)} (a1 : Int32) (w : sm_Mem) : sm_MC E mi_hs_sayable [.ref 36, .int a1] w (ff_hs_sayable a1 w) := sm_MC_of E (by decide +kernel) rfl (Nat.le_of_ble_eq_true rfl) (ss_hs_sayable_0 a1 w)
abbrev mi_hs_sayableByAny : sm_MI := (⟨"HerOrders$House", "sayableByAny", "()I"⟩, prog_3_method_18_code, 3, (some .int), 4)
set_option maxRecDepth 100000 in
theorem mf_hs_sayableByAny : sm_MF mi_hs_sayableByAny 0 := ⟨List.mem_of_getElem? (i := 769) (by decide +kernel), List.mem_of_getElem? (i := 73) (by decide +kernel), ⟨by decide, by decide⟩, by decide +kernel⟩
set_option maxRecDepth 100000 in
theorem mv_hs_sayableByAny : sm_MFV mi_hs_sayableByAny := ⟨List.mem_of_getElem? (i := 768) (by decide +kernel), List.mem_of_getElem? (i := 61) (by decide +kernel)⟩
set_option maxRecDepth 100000 in
theorem ii_hs_sayableByAny_0 : sm_D prog_3_method_18_code 0 1 1 (.iconst 0) := ⟨by decide +kernel, rfl⟩
set_option maxRecDepth 100000 in
theorem ii_hs_sayableByAny_1 : sm_D prog_3_method_18_code 1 1 2 (.istore_n 1) := ⟨by decide +kernel, rfl⟩
set_option maxRecDepth 100000 in
theorem ii_hs_sayableByAny_2 : sm_D prog_3_method_18_code 2 1 3 (.iconst 0) := ⟨by decide +kernel, rfl⟩
set_option maxRecDepth 100000 in
theorem ii_hs_sayableByAny_3 : sm_D prog_3_method_18_code 3 1 4 (.istore_n 2) := ⟨by decide +kernel, rfl⟩
set_option maxRecDepth 100000 in
theorem ii_hs_sayableByAny_4 : sm_D prog_3_method_18_code 4 1 5 (.iload_n 2) := ⟨by decide +kernel, rfl⟩
set_option maxRecDepth 100000 in
theorem ii_hs_sayableByAny_5 : sm_D prog_3_method_18_code 5 1 6 (.aload_n 0) := ⟨by decide +kernel, rfl⟩
set_option maxRecDepth 100000 in
theorem ii_hs_sayableByAny_6 : sm_D prog_3_method_18_code 6 3 9 (.getfield 45) := ⟨by decide +kernel, rfl⟩
set_option maxRecDepth 100000 in
theorem ii_hs_sayableByAny_9 : sm_D prog_3_method_18_code 9 3 12 (.if_icmp .ge 17) := ⟨by decide +kernel, rfl⟩
set_option maxRecDepth 100000 in
theorem ii_hs_sayableByAny_12 : sm_D prog_3_method_18_code 12 1 13 (.iload_n 1) := ⟨by decide +kernel, rfl⟩
set_option maxRecDepth 100000 in
theorem ii_hs_sayableByAny_13 : sm_D prog_3_method_18_code 13 1 14 (.aload_n 0) := ⟨by decide +kernel, rfl⟩
set_option maxRecDepth 100000 in
theorem ii_hs_sayableByAny_14 : sm_D prog_3_method_18_code 14 1 15 (.iload_n 2) := ⟨by decide +kernel, rfl⟩
set_option maxRecDepth 100000 in
theorem ii_hs_sayableByAny_15 : sm_D prog_3_method_18_code 15 3 18 (.invokevirtual 126) := ⟨by decide +kernel, rfl⟩
set_option maxRecDepth 100000 in
theorem ii_hs_sayableByAny_18 : sm_D prog_3_method_18_code 18 1 19 (.ior) := ⟨by decide +kernel, rfl⟩
set_option maxRecDepth 100000 in
theorem ii_hs_sayableByAny_19 : sm_D prog_3_method_18_code 19 1 20 (.istore_n 1) := ⟨by decide +kernel, rfl⟩
set_option maxRecDepth 100000 in
theorem ii_hs_sayableByAny_20 : sm_D prog_3_method_18_code 20 3 23 (.iinc 2 1) := ⟨by decide +kernel, rfl⟩
set_option maxRecDepth 100000 in
theorem ii_hs_sayableByAny_23 : sm_D prog_3_method_18_code 23 3 26 (.goto (-19)) := ⟨by decide +kernel, rfl⟩
set_option maxRecDepth 100000 in
theorem ii_hs_sayableByAny_26 : sm_D prog_3_method_18_code 26 1 27 (.iload_n 1) := ⟨by decide +kernel, rfl⟩
set_option maxRecDepth 100000 in
theorem ii_hs_sayableByAny_27 : sm_D prog_3_method_18_code 27 1 28 (.ireturn) := ⟨by decide +kernel, rfl⟩
noncomputable def ff_hs_sayableByAny_4_b  (self4 : Int32 → Int32 → sm_Mem → sm_R) (a1 : Int32) (a2 : Int32) (w : sm_Mem) : sm_R := (if (w.1 36 0) ≤ a2 then (some (.int a1, w)) else (sm_cI (ff_hs_sayable (a2) w) fun x1 w2 => self4 ((a1 ||| x1)) ((a2 + (1 : Int32))) w2))
noncomputable def ff_hs_sayableByAny_4_f  : Nat → Int32 → Int32 → sm_Mem → sm_R
  | 0, _, _, _ => none
  | n + 1, a1, a2, w => ff_hs_sayableByAny_4_b  (ff_hs_sayableByAny_4_f  n) a1 a2 w
noncomputable def ff_hs_sayableByAny_4  (a1 : Int32) (a2 : Int32) (w : sm_Mem) : sm_R := ff_hs_sayableByAny_4_f  sm_N a1 a2 w
set_option maxHeartbeats 4000000 in
set_option maxRecDepth 100000 in
theorem ss_hs_sayableByAny_4_b {E : Nat × (Nat → Int32)}  (self4 : Int32 → Int32 → sm_Mem → sm_R) (hself4 : ∀ (a1 : Int32) (a2 : Int32) (w : sm_Mem), sm_Sim E (mi_hs_sayableByAny) 4 [some (.ref 36), some (.int a1), some (.int a2)] [] w (self4 a1 a2 w)) (a1 : Int32) (a2 : Int32) (w : sm_Mem) : sm_Sim E (mi_hs_sayableByAny) 4 [some (.ref 36), some (.int a1), some (.int a2)] [] w (ff_hs_sayableByAny_4_b  self4 a1 a2 w) := by
  unfold ff_hs_sayableByAny_4_b
  refine sm_iload_n ii_hs_sayableByAny_4 rfl ?_
  refine sm_aload_n ii_hs_sayableByAny_5 rfl ?_
  refine sm_getI ii_hs_sayableByAny_6 fl_hs_45 (k := 36) rfl ?_
  refine sm_icmp_ge 26 ii_hs_sayableByAny_9 (by decide) ?_ ?_
  · refine sm_iload_n ii_hs_sayableByAny_26 rfl ?_
    exact sm_iret ii_hs_sayableByAny_27 rfl
  · refine sm_iload_n ii_hs_sayableByAny_12 rfl ?_
    refine sm_aload_n ii_hs_sayableByAny_13 rfl ?_
    refine sm_iload_n ii_hs_sayableByAny_14 rfl ?_
    refine sm_cvI [.int a2] [.int a1] rfl ii_hs_sayableByAny_15 ml_hs_126 (mf_hs_sayable) (mv_hs_sayable) (Nat.le_of_ble_eq_true rfl) rfl 1 rfl rfl rfl rfl (mc_hs_sayable (a2) w) (fun x1 w2 => ?_)
    refine sm_ior ii_hs_sayableByAny_18 ?_
    refine sm_istore_n [some (.ref 36), some (.int (a1 ||| x1)), some (.int a2)] ii_hs_sayableByAny_19 rfl rfl ?_
    refine sm_iinc (a2 + (1 : Int32)) [some (.ref 36), some (.int (a1 ||| x1)), some (.int (a2 + (1 : Int32)))] ii_hs_sayableByAny_20 rfl rfl rfl rfl ?_
    refine sm_goto 4 ii_hs_sayableByAny_23 (by decide) ?_
    exact hself4 ((a1 ||| x1)) ((a2 + (1 : Int32))) w2
set_option maxHeartbeats 4000000 in
set_option maxRecDepth 100000 in
theorem ss_hs_sayableByAny_4_f {E : Nat × (Nat → Int32)}  : ∀ (n : Nat) (a1 : Int32) (a2 : Int32) (w : sm_Mem), sm_Sim E (mi_hs_sayableByAny) 4 [some (.ref 36), some (.int a1), some (.int a2)] [] w (ff_hs_sayableByAny_4_f  n a1 a2 w)
  | 0, _, _, _ => fun _ _ h => by cases h
  | n + 1, a1, a2, w => ss_hs_sayableByAny_4_b  _ (ss_hs_sayableByAny_4_f  n) a1 a2 w
set_option maxHeartbeats 4000000 in
set_option maxRecDepth 100000 in
theorem ss_hs_sayableByAny_4 {E : Nat × (Nat → Int32)}  (a1 : Int32) (a2 : Int32) (w : sm_Mem) : sm_Sim E (mi_hs_sayableByAny) 4 [some (.ref 36), some (.int a1), some (.int a2)] [] w (ff_hs_sayableByAny_4  a1 a2 w) := ss_hs_sayableByAny_4_f  sm_N a1 a2 w
noncomputable def ff_hs_sayableByAny   (w : sm_Mem) : sm_R := ff_hs_sayableByAny_4 ((0 : Int32)) ((0 : Int32)) w
set_option maxHeartbeats 4000000 in
set_option maxRecDepth 100000 in
theorem ss_hs_sayableByAny_0 {E : Nat × (Nat → Int32)}   (w : sm_Mem) : sm_Sim E (mi_hs_sayableByAny) 0 [some (.ref 36), none, none] [] w (ff_hs_sayableByAny   w) := by
  unfold ff_hs_sayableByAny
  refine sm_iconst (0 : Int32) ii_hs_sayableByAny_0 (by decide) ?_
  refine sm_istore_n [some (.ref 36), some (.int (0 : Int32)), none] ii_hs_sayableByAny_1 rfl rfl ?_
  refine sm_iconst (0 : Int32) ii_hs_sayableByAny_2 (by decide) ?_
  refine sm_istore_n [some (.ref 36), some (.int (0 : Int32)), some (.int (0 : Int32))] ii_hs_sayableByAny_3 rfl rfl ?_
  exact ss_hs_sayableByAny_4 ((0 : Int32)) ((0 : Int32)) w
set_option maxHeartbeats 4000000 in
set_option maxRecDepth 100000 in
theorem mc_hs_sayableByAny {E : Nat × (Nat → Int32)}  (w : sm_Mem) : sm_MC E mi_hs_sayableByAny [.ref 36] w (ff_hs_sayableByAny  w) := sm_MC_of E (by decide +kernel) rfl (Nat.le_of_ble_eq_true rfl) (ss_hs_sayableByAny_0  w)
abbrev mi_ho_isOf : sm_MI := (⟨"HerOrders", "isOf", "(II)Z"⟩, prog_1_method_57_code, 2, (some .boolean), 1)
set_option maxRecDepth 100000 in
theorem mf_ho_isOf : sm_MF mi_ho_isOf 2 := ⟨List.mem_of_getElem? (i := 776) (by decide +kernel), List.mem_of_getElem? (i := 69) (by decide +kernel), ⟨by decide, by decide⟩, by decide +kernel⟩
set_option maxRecDepth 100000 in
theorem mv_ho_isOf : sm_MFS mi_ho_isOf := List.mem_of_getElem? (i := 775) (by decide +kernel)
set_option maxRecDepth 100000 in
theorem ii_ho_isOf_0 : sm_D prog_1_method_57_code 0 1 1 (.iload_n 0) := ⟨by decide +kernel, rfl⟩
set_option maxRecDepth 100000 in
theorem ii_ho_isOf_1 : sm_D prog_1_method_57_code 1 1 2 (.iload_n 1) := ⟨by decide +kernel, rfl⟩
set_option maxRecDepth 100000 in
theorem ii_ho_isOf_2 : sm_D prog_1_method_57_code 2 3 5 (.if_icmp .eq 7) := ⟨by decide +kernel, rfl⟩
set_option maxRecDepth 100000 in
theorem ii_ho_isOf_5 : sm_D prog_1_method_57_code 5 1 6 (.iload_n 1) := ⟨by decide +kernel, rfl⟩
set_option maxRecDepth 100000 in
theorem ii_ho_isOf_6 : sm_D prog_1_method_57_code 6 3 9 (.ifCond .ne 5) := ⟨by decide +kernel, rfl⟩
set_option maxRecDepth 100000 in
theorem ii_ho_isOf_9 : sm_D prog_1_method_57_code 9 1 10 (.iconst 1) := ⟨by decide +kernel, rfl⟩
set_option maxRecDepth 100000 in
theorem ii_ho_isOf_10 : sm_D prog_1_method_57_code 10 1 11 (.ireturn) := ⟨by decide +kernel, rfl⟩
set_option maxRecDepth 100000 in
theorem ii_ho_isOf_11 : sm_D prog_1_method_57_code 11 1 12 (.iload_n 0) := ⟨by decide +kernel, rfl⟩
set_option maxRecDepth 100000 in
theorem ii_ho_isOf_12 : sm_D prog_1_method_57_code 12 1 13 (.iconst 4) := ⟨by decide +kernel, rfl⟩
set_option maxRecDepth 100000 in
theorem ii_ho_isOf_13 : sm_D prog_1_method_57_code 13 3 16 (.if_icmp .ne 8) := ⟨by decide +kernel, rfl⟩
set_option maxRecDepth 100000 in
theorem ii_ho_isOf_16 : sm_D prog_1_method_57_code 16 1 17 (.iload_n 1) := ⟨by decide +kernel, rfl⟩
set_option maxRecDepth 100000 in
theorem ii_ho_isOf_17 : sm_D prog_1_method_57_code 17 1 18 (.iconst 3) := ⟨by decide +kernel, rfl⟩
set_option maxRecDepth 100000 in
theorem ii_ho_isOf_18 : sm_D prog_1_method_57_code 18 3 21 (.if_icmp .eq 13) := ⟨by decide +kernel, rfl⟩
set_option maxRecDepth 100000 in
theorem ii_ho_isOf_21 : sm_D prog_1_method_57_code 21 1 22 (.iload_n 0) := ⟨by decide +kernel, rfl⟩
set_option maxRecDepth 100000 in
theorem ii_ho_isOf_22 : sm_D prog_1_method_57_code 22 1 23 (.iconst 5) := ⟨by decide +kernel, rfl⟩
set_option maxRecDepth 100000 in
theorem ii_ho_isOf_23 : sm_D prog_1_method_57_code 23 3 26 (.if_icmp .ne 12) := ⟨by decide +kernel, rfl⟩
set_option maxRecDepth 100000 in
theorem ii_ho_isOf_26 : sm_D prog_1_method_57_code 26 1 27 (.iload_n 1) := ⟨by decide +kernel, rfl⟩
set_option maxRecDepth 100000 in
theorem ii_ho_isOf_27 : sm_D prog_1_method_57_code 27 1 28 (.iconst 1) := ⟨by decide +kernel, rfl⟩
set_option maxRecDepth 100000 in
theorem ii_ho_isOf_28 : sm_D prog_1_method_57_code 28 3 31 (.if_icmp .ne 7) := ⟨by decide +kernel, rfl⟩
set_option maxRecDepth 100000 in
theorem ii_ho_isOf_31 : sm_D prog_1_method_57_code 31 1 32 (.iconst 1) := ⟨by decide +kernel, rfl⟩
set_option maxRecDepth 100000 in
theorem ii_ho_isOf_32 : sm_D prog_1_method_57_code 32 3 35 (.goto 4) := ⟨by decide +kernel, rfl⟩
set_option maxRecDepth 100000 in
theorem ii_ho_isOf_35 : sm_D prog_1_method_57_code 35 1 36 (.iconst 0) := ⟨by decide +kernel, rfl⟩
set_option maxRecDepth 100000 in
theorem ii_ho_isOf_36 : sm_D prog_1_method_57_code 36 1 37 (.ireturn) := ⟨by decide +kernel, rfl⟩
noncomputable def ff_ho_isOf_21  (a0 : Int32) (a1 : Int32) (w : sm_Mem) : sm_R := (if a0 = (5 : Int32) then (if a1 = (1 : Int32) then (some (.int (1 : Int32), w)) else (some (.int (0 : Int32), w))) else (some (.int (0 : Int32), w)))
set_option maxHeartbeats 4000000 in
set_option maxRecDepth 100000 in
theorem ss_ho_isOf_21 {E : Nat × (Nat → Int32)}  (a0 : Int32) (a1 : Int32) (w : sm_Mem) : sm_Sim E (mi_ho_isOf) 21 [some (.int a0), some (.int a1)] [] w (ff_ho_isOf_21  a0 a1 w) := by
  unfold ff_ho_isOf_21
  refine sm_iload_n ii_ho_isOf_21 rfl ?_
  refine sm_iconst (5 : Int32) ii_ho_isOf_22 (by decide) ?_
  refine sm_icmp_ne 35 ii_ho_isOf_23 (by decide) ?_ ?_
  · refine sm_iload_n ii_ho_isOf_26 rfl ?_
    refine sm_iconst (1 : Int32) ii_ho_isOf_27 (by decide) ?_
    refine sm_icmp_ne 35 ii_ho_isOf_28 (by decide) ?_ ?_
    · refine sm_iconst (1 : Int32) ii_ho_isOf_31 (by decide) ?_
      refine sm_goto 36 ii_ho_isOf_32 (by decide) ?_
      exact sm_zret1 ii_ho_isOf_36 rfl (by decide)
    · refine sm_iconst (0 : Int32) ii_ho_isOf_35 (by decide) ?_
      exact sm_zret1 ii_ho_isOf_36 rfl (by decide)
  · refine sm_iconst (0 : Int32) ii_ho_isOf_35 (by decide) ?_
    exact sm_zret1 ii_ho_isOf_36 rfl (by decide)
noncomputable def ff_ho_isOf  (a0 : Int32) (a1 : Int32) (w : sm_Mem) : sm_R := (if a0 = a1 then (some (.int (1 : Int32), w)) else (if a1 = (0 : Int32) then (some (.int (1 : Int32), w)) else (if a0 = (4 : Int32) then (if a1 = (3 : Int32) then (some (.int (1 : Int32), w)) else ff_ho_isOf_21 (a0) (a1) w) else ff_ho_isOf_21 (a0) (a1) w)))
set_option maxHeartbeats 4000000 in
set_option maxRecDepth 100000 in
theorem ss_ho_isOf_0 {E : Nat × (Nat → Int32)}  (a0 : Int32) (a1 : Int32) (w : sm_Mem) : sm_Sim E (mi_ho_isOf) 0 [some (.int a0), some (.int a1)] [] w (ff_ho_isOf  a0 a1 w) := by
  unfold ff_ho_isOf
  refine sm_iload_n ii_ho_isOf_0 rfl ?_
  refine sm_iload_n ii_ho_isOf_1 rfl ?_
  refine sm_icmp_eq 9 ii_ho_isOf_2 (by decide) ?_ ?_
  · refine sm_iconst (1 : Int32) ii_ho_isOf_9 (by decide) ?_
    exact sm_zret1 ii_ho_isOf_10 rfl (by decide)
  · refine sm_iload_n ii_ho_isOf_5 rfl ?_
    refine sm_if_ne 11 ii_ho_isOf_6 (by decide) ?_ ?_
    · refine sm_iconst (1 : Int32) ii_ho_isOf_9 (by decide) ?_
      exact sm_zret1 ii_ho_isOf_10 rfl (by decide)
    · refine sm_iload_n ii_ho_isOf_11 rfl ?_
      refine sm_iconst (4 : Int32) ii_ho_isOf_12 (by decide) ?_
      refine sm_icmp_ne 21 ii_ho_isOf_13 (by decide) ?_ ?_
      · refine sm_iload_n ii_ho_isOf_16 rfl ?_
        refine sm_iconst (3 : Int32) ii_ho_isOf_17 (by decide) ?_
        refine sm_icmp_eq 31 ii_ho_isOf_18 (by decide) ?_ ?_
        · refine sm_iconst (1 : Int32) ii_ho_isOf_31 (by decide) ?_
          refine sm_goto 36 ii_ho_isOf_32 (by decide) ?_
          exact sm_zret1 ii_ho_isOf_36 rfl (by decide)
        · exact ss_ho_isOf_21 (a0) (a1) w
      · exact ss_ho_isOf_21 (a0) (a1) w
set_option maxHeartbeats 4000000 in
set_option maxRecDepth 100000 in
theorem mc_ho_isOf {E : Nat × (Nat → Int32)} (a0 : Int32) (a1 : Int32) (w : sm_Mem) : sm_MC E mi_ho_isOf [.int a0, .int a1] w (ff_ho_isOf a0 a1 w) := sm_MC_of E (by decide +kernel) rfl (Nat.le_of_ble_eq_true rfl) (ss_ho_isOf_0 a0 a1 w)
abbrev mi_hs_parrots : sm_MI := (⟨"HerOrders$House", "parrots", "()I"⟩, prog_3_method_27_code, 3, (some .int), 2)
set_option maxRecDepth 100000 in
theorem mf_hs_parrots : sm_MF mi_hs_parrots 0 := ⟨List.mem_of_getElem? (i := 773) (by decide +kernel), List.mem_of_getElem? (i := 73) (by decide +kernel), ⟨by decide, by decide⟩, by decide +kernel⟩
set_option maxRecDepth 100000 in
theorem mv_hs_parrots : sm_MFV mi_hs_parrots := ⟨List.mem_of_getElem? (i := 772) (by decide +kernel), List.mem_of_getElem? (i := 62) (by decide +kernel)⟩
set_option maxRecDepth 100000 in
theorem ii_hs_parrots_0 : sm_D prog_3_method_27_code 0 1 1 (.iconst 0) := ⟨by decide +kernel, rfl⟩
set_option maxRecDepth 100000 in
theorem ii_hs_parrots_1 : sm_D prog_3_method_27_code 1 1 2 (.istore_n 1) := ⟨by decide +kernel, rfl⟩
set_option maxRecDepth 100000 in
theorem ii_hs_parrots_2 : sm_D prog_3_method_27_code 2 1 3 (.iconst 0) := ⟨by decide +kernel, rfl⟩
set_option maxRecDepth 100000 in
theorem ii_hs_parrots_3 : sm_D prog_3_method_27_code 3 1 4 (.istore_n 2) := ⟨by decide +kernel, rfl⟩
set_option maxRecDepth 100000 in
theorem ii_hs_parrots_4 : sm_D prog_3_method_27_code 4 1 5 (.iload_n 2) := ⟨by decide +kernel, rfl⟩
set_option maxRecDepth 100000 in
theorem ii_hs_parrots_5 : sm_D prog_3_method_27_code 5 1 6 (.aload_n 0) := ⟨by decide +kernel, rfl⟩
set_option maxRecDepth 100000 in
theorem ii_hs_parrots_6 : sm_D prog_3_method_27_code 6 3 9 (.getfield 45) := ⟨by decide +kernel, rfl⟩
set_option maxRecDepth 100000 in
theorem ii_hs_parrots_9 : sm_D prog_3_method_27_code 9 3 12 (.if_icmp .ge 25) := ⟨by decide +kernel, rfl⟩
set_option maxRecDepth 100000 in
theorem ii_hs_parrots_12 : sm_D prog_3_method_27_code 12 1 13 (.aload_n 0) := ⟨by decide +kernel, rfl⟩
set_option maxRecDepth 100000 in
theorem ii_hs_parrots_13 : sm_D prog_3_method_27_code 13 3 16 (.getfield 9) := ⟨by decide +kernel, rfl⟩
set_option maxRecDepth 100000 in
theorem ii_hs_parrots_16 : sm_D prog_3_method_27_code 16 1 17 (.iload_n 2) := ⟨by decide +kernel, rfl⟩
set_option maxRecDepth 100000 in
theorem ii_hs_parrots_17 : sm_D prog_3_method_27_code 17 1 18 (.iaload) := ⟨by decide +kernel, rfl⟩
set_option maxRecDepth 100000 in
theorem ii_hs_parrots_18 : sm_D prog_3_method_27_code 18 1 19 (.iconst 1) := ⟨by decide +kernel, rfl⟩
set_option maxRecDepth 100000 in
theorem ii_hs_parrots_19 : sm_D prog_3_method_27_code 19 3 22 (.invokestatic 132) := ⟨by decide +kernel, rfl⟩
set_option maxRecDepth 100000 in
theorem ii_hs_parrots_22 : sm_D prog_3_method_27_code 22 3 25 (.ifCond .eq 6) := ⟨by decide +kernel, rfl⟩
set_option maxRecDepth 100000 in
theorem ii_hs_parrots_25 : sm_D prog_3_method_27_code 25 3 28 (.iinc 1 1) := ⟨by decide +kernel, rfl⟩
set_option maxRecDepth 100000 in
theorem ii_hs_parrots_28 : sm_D prog_3_method_27_code 28 3 31 (.iinc 2 1) := ⟨by decide +kernel, rfl⟩
set_option maxRecDepth 100000 in
theorem ii_hs_parrots_31 : sm_D prog_3_method_27_code 31 3 34 (.goto (-27)) := ⟨by decide +kernel, rfl⟩
set_option maxRecDepth 100000 in
theorem ii_hs_parrots_34 : sm_D prog_3_method_27_code 34 1 35 (.iload_n 1) := ⟨by decide +kernel, rfl⟩
set_option maxRecDepth 100000 in
theorem ii_hs_parrots_35 : sm_D prog_3_method_27_code 35 1 36 (.ireturn) := ⟨by decide +kernel, rfl⟩
noncomputable def ff_hs_parrots_4_b  (self4 : Int32 → Int32 → sm_Mem → sm_R) (a1 : Int32) (a2 : Int32) (w : sm_Mem) : sm_R := (if (w.1 36 0) ≤ a2 then (some (.int a1, w)) else (Option.bind (sm_rd w 37 6 a2) fun x1 => (sm_cI (ff_ho_isOf (x1) ((1 : Int32)) w) fun x2 w3 => (if x2 = (0 : Int32) then self4 (a1) ((a2 + (1 : Int32))) w3 else self4 ((a1 + (1 : Int32))) ((a2 + (1 : Int32))) w3))))
noncomputable def ff_hs_parrots_4_f  : Nat → Int32 → Int32 → sm_Mem → sm_R
  | 0, _, _, _ => none
  | n + 1, a1, a2, w => ff_hs_parrots_4_b  (ff_hs_parrots_4_f  n) a1 a2 w
noncomputable def ff_hs_parrots_4  (a1 : Int32) (a2 : Int32) (w : sm_Mem) : sm_R := ff_hs_parrots_4_f  sm_N a1 a2 w
set_option maxHeartbeats 4000000 in
set_option maxRecDepth 100000 in
theorem ss_hs_parrots_4_b {E : Nat × (Nat → Int32)}  (self4 : Int32 → Int32 → sm_Mem → sm_R) (hself4 : ∀ (a1 : Int32) (a2 : Int32) (w : sm_Mem), sm_Sim E (mi_hs_parrots) 4 [some (.ref 36), some (.int a1), some (.int a2)] [] w (self4 a1 a2 w)) (a1 : Int32) (a2 : Int32) (w : sm_Mem) : sm_Sim E (mi_hs_parrots) 4 [some (.ref 36), some (.int a1), some (.int a2)] [] w (ff_hs_parrots_4_b  self4 a1 a2 w) := by
  unfold ff_hs_parrots_4_b
  refine sm_iload_n ii_hs_parrots_4 rfl ?_
  refine sm_aload_n ii_hs_parrots_5 rfl ?_
  refine sm_getI ii_hs_parrots_6 fl_hs_45 (k := 36) rfl ?_
  refine sm_icmp_ge 34 ii_hs_parrots_9 (by decide) ?_ ?_
  · refine sm_iload_n ii_hs_parrots_34 rfl ?_
    exact sm_iret ii_hs_parrots_35 rfl
  · refine sm_aload_n ii_hs_parrots_12 rfl ?_
    refine sm_getR 37 ii_hs_parrots_13 fl_hs_9 (k := 36) rfl ?_
    refine sm_iload_n ii_hs_parrots_16 rfl ?_
    refine sm_iald ii_hs_parrots_17 (k := 37) rfl (fun x1 => ?_)
    refine sm_iconst (1 : Int32) ii_hs_parrots_18 (by decide) ?_
    refine sm_csI [.int x1, .int (1 : Int32)] [] rfl ii_hs_parrots_19 ml_hs_132 (mf_ho_isOf) (mv_ho_isOf) (Nat.le_of_ble_eq_true rfl) rfl rfl rfl (mc_ho_isOf (x1) ((1 : Int32)) w) (fun x2 w3 => ?_)
    refine sm_if_eq 28 ii_hs_parrots_22 (by decide) ?_ ?_
    · refine sm_iinc (a2 + (1 : Int32)) [some (.ref 36), some (.int a1), some (.int (a2 + (1 : Int32)))] ii_hs_parrots_28 rfl rfl rfl rfl ?_
      refine sm_goto 4 ii_hs_parrots_31 (by decide) ?_
      exact hself4 (a1) ((a2 + (1 : Int32))) w3
    · refine sm_iinc (a1 + (1 : Int32)) [some (.ref 36), some (.int (a1 + (1 : Int32))), some (.int a2)] ii_hs_parrots_25 rfl rfl rfl rfl ?_
      refine sm_iinc (a2 + (1 : Int32)) [some (.ref 36), some (.int (a1 + (1 : Int32))), some (.int (a2 + (1 : Int32)))] ii_hs_parrots_28 rfl rfl rfl rfl ?_
      refine sm_goto 4 ii_hs_parrots_31 (by decide) ?_
      exact hself4 ((a1 + (1 : Int32))) ((a2 + (1 : Int32))) w3
set_option maxHeartbeats 4000000 in
set_option maxRecDepth 100000 in
theorem ss_hs_parrots_4_f {E : Nat × (Nat → Int32)}  : ∀ (n : Nat) (a1 : Int32) (a2 : Int32) (w : sm_Mem), sm_Sim E (mi_hs_parrots) 4 [some (.ref 36), some (.int a1), some (.int a2)] [] w (ff_hs_parrots_4_f  n a1 a2 w)
  | 0, _, _, _ => fun _ _ h => by cases h
  | n + 1, a1, a2, w => ss_hs_parrots_4_b  _ (ss_hs_parrots_4_f  n) a1 a2 w
set_option maxHeartbeats 4000000 in
set_option maxRecDepth 100000 in
theorem ss_hs_parrots_4 {E : Nat × (Nat → Int32)}  (a1 : Int32) (a2 : Int32) (w : sm_Mem) : sm_Sim E (mi_hs_parrots) 4 [some (.ref 36), some (.int a1), some (.int a2)] [] w (ff_hs_parrots_4  a1 a2 w) := ss_hs_parrots_4_f  sm_N a1 a2 w
noncomputable def ff_hs_parrots   (w : sm_Mem) : sm_R := ff_hs_parrots_4 ((0 : Int32)) ((0 : Int32)) w
set_option maxHeartbeats 4000000 in
set_option maxRecDepth 100000 in
theorem ss_hs_parrots_0 {E : Nat × (Nat → Int32)}   (w : sm_Mem) : sm_Sim E (mi_hs_parrots) 0 [some (.ref 36), none, none] [] w (ff_hs_parrots   w) := by
  unfold ff_hs_parrots
  refine sm_iconst (0 : Int32) ii_hs_parrots_0 (by decide) ?_
  refine sm_istore_n [some (.ref 36), some (.int (0 : Int32)), none] ii_hs_parrots_1 rfl rfl ?_
  refine sm_iconst (0 : Int32) ii_hs_parrots_2 (by decide) ?_
  refine sm_istore_n [some (.ref 36), some (.int (0 : Int32)), some (.int (0 : Int32))] ii_hs_parrots_3 rfl rfl ?_
  exact ss_hs_parrots_4 ((0 : Int32)) ((0 : Int32)) w
set_option maxHeartbeats 4000000 in
set_option maxRecDepth 100000 in
theorem mc_hs_parrots {E : Nat × (Nat → Int32)}  (w : sm_Mem) : sm_MC E mi_hs_parrots [.ref 36] w (ff_hs_parrots  w) := sm_MC_of E (by decide +kernel) rfl (Nat.le_of_ble_eq_true rfl) (ss_hs_parrots_0  w)
abbrev mi_ho_present : sm_MI := (⟨"HerOrders", "present", "([LHerOrders$Row;)I"⟩, prog_1_method_63_code, 3, (some .int), 2)
set_option maxRecDepth 100000 in
theorem mf_ho_present : sm_MF mi_ho_present 1 := ⟨List.mem_of_getElem? (i := 779) (by decide +kernel), List.mem_of_getElem? (i := 69) (by decide +kernel), ⟨by decide, by decide⟩, by decide +kernel⟩
set_option maxRecDepth 100000 in
theorem mv_ho_present : sm_MFS mi_ho_present := List.mem_of_getElem? (i := 778) (by decide +kernel)
set_option maxRecDepth 100000 in
theorem ii_ho_present_0 : sm_D prog_1_method_63_code 0 1 1 (.iconst 0) := ⟨by decide +kernel, rfl⟩
set_option maxRecDepth 100000 in
theorem ii_ho_present_1 : sm_D prog_1_method_63_code 1 1 2 (.istore_n 1) := ⟨by decide +kernel, rfl⟩
set_option maxRecDepth 100000 in
theorem ii_ho_present_2 : sm_D prog_1_method_63_code 2 1 3 (.iconst 0) := ⟨by decide +kernel, rfl⟩
set_option maxRecDepth 100000 in
theorem ii_ho_present_3 : sm_D prog_1_method_63_code 3 1 4 (.istore_n 2) := ⟨by decide +kernel, rfl⟩
set_option maxRecDepth 100000 in
theorem ii_ho_present_4 : sm_D prog_1_method_63_code 4 1 5 (.iload_n 2) := ⟨by decide +kernel, rfl⟩
set_option maxRecDepth 100000 in
theorem ii_ho_present_5 : sm_D prog_1_method_63_code 5 1 6 (.aload_n 0) := ⟨by decide +kernel, rfl⟩
set_option maxRecDepth 100000 in
theorem ii_ho_present_6 : sm_D prog_1_method_63_code 6 1 7 (.arraylength) := ⟨by decide +kernel, rfl⟩
set_option maxRecDepth 100000 in
theorem ii_ho_present_7 : sm_D prog_1_method_63_code 7 3 10 (.if_icmp .ge 21) := ⟨by decide +kernel, rfl⟩
set_option maxRecDepth 100000 in
theorem ii_ho_present_10 : sm_D prog_1_method_63_code 10 1 11 (.aload_n 0) := ⟨by decide +kernel, rfl⟩
set_option maxRecDepth 100000 in
theorem ii_ho_present_11 : sm_D prog_1_method_63_code 11 1 12 (.iload_n 2) := ⟨by decide +kernel, rfl⟩
set_option maxRecDepth 100000 in
theorem ii_ho_present_12 : sm_D prog_1_method_63_code 12 1 13 (.aaload) := ⟨by decide +kernel, rfl⟩
set_option maxRecDepth 100000 in
theorem ii_ho_present_13 : sm_D prog_1_method_63_code 13 3 16 (.invokevirtual 89) := ⟨by decide +kernel, rfl⟩
set_option maxRecDepth 100000 in
theorem ii_ho_present_16 : sm_D prog_1_method_63_code 16 3 19 (.ifCond .ne 6) := ⟨by decide +kernel, rfl⟩
set_option maxRecDepth 100000 in
theorem ii_ho_present_19 : sm_D prog_1_method_63_code 19 3 22 (.iinc 1 1) := ⟨by decide +kernel, rfl⟩
set_option maxRecDepth 100000 in
theorem ii_ho_present_22 : sm_D prog_1_method_63_code 22 3 25 (.iinc 2 1) := ⟨by decide +kernel, rfl⟩
set_option maxRecDepth 100000 in
theorem ii_ho_present_25 : sm_D prog_1_method_63_code 25 3 28 (.goto (-21)) := ⟨by decide +kernel, rfl⟩
set_option maxRecDepth 100000 in
theorem ii_ho_present_28 : sm_D prog_1_method_63_code 28 1 29 (.iload_n 1) := ⟨by decide +kernel, rfl⟩
set_option maxRecDepth 100000 in
theorem ii_ho_present_29 : sm_D prog_1_method_63_code 29 1 30 (.ireturn) := ⟨by decide +kernel, rfl⟩
noncomputable def ff_ho_present_4_b  (self4 : Nat → Int32 → Int32 → sm_Mem → sm_R) (a0 : Nat) (a1 : Int32) (a2 : Int32) (w : sm_Mem) : sm_R := (Option.bind (sm_al a0) fun x1 => (if x1 ≤ a2 then (some (.int a1, w)) else (Option.bind (sm_rr a0 a2) fun r2 => (sm_cI (sm_rc r2 2 (ff_rw_isMissing (r2) w)) fun x3 w4 => (if x3 = (0 : Int32) then self4 (a0) ((a1 + (1 : Int32))) ((a2 + (1 : Int32))) w4 else self4 (a0) (a1) ((a2 + (1 : Int32))) w4)))))
noncomputable def ff_ho_present_4_f  : Nat → Nat → Int32 → Int32 → sm_Mem → sm_R
  | 0, _, _, _, _ => none
  | n + 1, a0, a1, a2, w => ff_ho_present_4_b  (ff_ho_present_4_f  n) a0 a1 a2 w
noncomputable def ff_ho_present_4  (a0 : Nat) (a1 : Int32) (a2 : Int32) (w : sm_Mem) : sm_R := ff_ho_present_4_f  sm_N a0 a1 a2 w
set_option maxHeartbeats 4000000 in
set_option maxRecDepth 100000 in
theorem ss_ho_present_4_b {E : Nat × (Nat → Int32)}  (self4 : Nat → Int32 → Int32 → sm_Mem → sm_R) (hself4 : ∀ (a0 : Nat) (a1 : Int32) (a2 : Int32) (w : sm_Mem), sm_Sim E (mi_ho_present) 4 [some (.ref a0), some (.int a1), some (.int a2)] [] w (self4 a0 a1 a2 w)) (a0 : Nat) (a1 : Int32) (a2 : Int32) (w : sm_Mem) : sm_Sim E (mi_ho_present) 4 [some (.ref a0), some (.int a1), some (.int a2)] [] w (ff_ho_present_4_b  self4 a0 a1 a2 w) := by
  unfold ff_ho_present_4_b
  refine sm_iload_n ii_ho_present_4 rfl ?_
  refine sm_aload_n ii_ho_present_5 rfl ?_
  refine sm_alen ii_ho_present_6 (fun x1 => ?_)
  refine sm_icmp_ge 28 ii_ho_present_7 (by decide) ?_ ?_
  · refine sm_iload_n ii_ho_present_28 rfl ?_
    exact sm_iret ii_ho_present_29 rfl
  · refine sm_aload_n ii_ho_present_10 rfl ?_
    refine sm_iload_n ii_ho_present_11 rfl ?_
    refine sm_aald ii_ho_present_12 (fun r2 => ?_)
    refine sm_dvI [] [] rfl ii_ho_present_13 ml_ho_89 (mf_rw_isMissing) (mv_rw_isMissing) (Nat.le_of_ble_eq_true rfl) rfl 2 rfl rfl rfl (mc_rw_isMissing (r2) w) (fun x3 w4 => ?_)
    refine sm_if_ne 22 ii_ho_present_16 (by decide) ?_ ?_
    · refine sm_iinc (a1 + (1 : Int32)) [some (.ref a0), some (.int (a1 + (1 : Int32))), some (.int a2)] ii_ho_present_19 rfl rfl rfl rfl ?_
      refine sm_iinc (a2 + (1 : Int32)) [some (.ref a0), some (.int (a1 + (1 : Int32))), some (.int (a2 + (1 : Int32)))] ii_ho_present_22 rfl rfl rfl rfl ?_
      refine sm_goto 4 ii_ho_present_25 (by decide) ?_
      exact hself4 (a0) ((a1 + (1 : Int32))) ((a2 + (1 : Int32))) w4
    · refine sm_iinc (a2 + (1 : Int32)) [some (.ref a0), some (.int a1), some (.int (a2 + (1 : Int32)))] ii_ho_present_22 rfl rfl rfl rfl ?_
      refine sm_goto 4 ii_ho_present_25 (by decide) ?_
      exact hself4 (a0) (a1) ((a2 + (1 : Int32))) w4
set_option maxHeartbeats 4000000 in
set_option maxRecDepth 100000 in
theorem ss_ho_present_4_f {E : Nat × (Nat → Int32)}  : ∀ (n : Nat) (a0 : Nat) (a1 : Int32) (a2 : Int32) (w : sm_Mem), sm_Sim E (mi_ho_present) 4 [some (.ref a0), some (.int a1), some (.int a2)] [] w (ff_ho_present_4_f  n a0 a1 a2 w)
  | 0, _, _, _, _ => fun _ _ h => by cases h
  | n + 1, a0, a1, a2, w => ss_ho_present_4_b  _ (ss_ho_present_4_f  n) a0 a1 a2 w
set_option maxHeartbeats 4000000 in
set_option maxRecDepth 100000 in
theorem ss_ho_present_4 {E : Nat × (Nat → Int32)}  (a0 : Nat) (a1 : Int32) (a2 : Int32) (w : sm_Mem) : sm_Sim E (mi_ho_present) 4 [some (.ref a0), some (.int a1), some (.int a2)] [] w (ff_ho_present_4  a0 a1 a2 w) := ss_ho_present_4_f  sm_N a0 a1 a2 w
noncomputable def ff_ho_present  (a0 : Nat) (w : sm_Mem) : sm_R := ff_ho_present_4 (a0) ((0 : Int32)) ((0 : Int32)) w
set_option maxHeartbeats 4000000 in
set_option maxRecDepth 100000 in
theorem ss_ho_present_0 {E : Nat × (Nat → Int32)}  (a0 : Nat) (w : sm_Mem) : sm_Sim E (mi_ho_present) 0 [some (.ref a0), none, none] [] w (ff_ho_present  a0 w) := by
  unfold ff_ho_present
  refine sm_iconst (0 : Int32) ii_ho_present_0 (by decide) ?_
  refine sm_istore_n [some (.ref a0), some (.int (0 : Int32)), none] ii_ho_present_1 rfl rfl ?_
  refine sm_iconst (0 : Int32) ii_ho_present_2 (by decide) ?_
  refine sm_istore_n [some (.ref a0), some (.int (0 : Int32)), some (.int (0 : Int32))] ii_ho_present_3 rfl rfl ?_
  exact ss_ho_present_4 (a0) ((0 : Int32)) ((0 : Int32)) w
set_option maxHeartbeats 4000000 in
set_option maxRecDepth 100000 in
theorem mc_ho_present {E : Nat × (Nat → Int32)} (a0 : Nat) (w : sm_Mem) : sm_MC E mi_ho_present [.ref a0] w (ff_ho_present a0 w) := sm_MC_of E (by decide +kernel) rfl (Nat.le_of_ble_eq_true rfl) (ss_ho_present_0 a0 w)
abbrev mi_de_isMissing : sm_MI := (⟨"HerOrders$Deeds", "isMissing", "()Z"⟩, prog_2_method_2_code, 1, (some .boolean), 1)
set_option maxRecDepth 100000 in
theorem mf_de_isMissing : sm_MF mi_de_isMissing 0 := ⟨List.mem_of_getElem? (i := 473) (by decide +kernel), List.mem_of_getElem? (i := 72) (by decide +kernel), ⟨by decide, by decide⟩, by decide +kernel⟩
set_option maxRecDepth 100000 in
theorem mv_de_isMissing : sm_MFV mi_de_isMissing := ⟨List.mem_of_getElem? (i := 472) (by decide +kernel), List.mem_of_getElem? (i := 19) (by decide +kernel)⟩
set_option maxRecDepth 100000 in
theorem ii_de_isMissing_0 : sm_D prog_2_method_2_code 0 1 1 (.aload_n 0) := ⟨by decide +kernel, rfl⟩
set_option maxRecDepth 100000 in
theorem ii_de_isMissing_1 : sm_D prog_2_method_2_code 1 3 4 (.getfield 21) := ⟨by decide +kernel, rfl⟩
set_option maxRecDepth 100000 in
theorem ii_de_isMissing_4 : sm_D prog_2_method_2_code 4 3 7 (.ifCond .ge 7) := ⟨by decide +kernel, rfl⟩
set_option maxRecDepth 100000 in
theorem ii_de_isMissing_7 : sm_D prog_2_method_2_code 7 1 8 (.iconst 1) := ⟨by decide +kernel, rfl⟩
set_option maxRecDepth 100000 in
theorem ii_de_isMissing_8 : sm_D prog_2_method_2_code 8 3 11 (.goto 4) := ⟨by decide +kernel, rfl⟩
set_option maxRecDepth 100000 in
theorem ii_de_isMissing_11 : sm_D prog_2_method_2_code 11 1 12 (.iconst 0) := ⟨by decide +kernel, rfl⟩
set_option maxRecDepth 100000 in
theorem ii_de_isMissing_12 : sm_D prog_2_method_2_code 12 1 13 (.ireturn) := ⟨by decide +kernel, rfl⟩
noncomputable def ff_de_isMissing  (a0 : Nat) (w : sm_Mem) : sm_R := (Option.bind (sm_gI w a0 0 3) fun x1 => (if (0 : Int32) ≤ x1 then (some (.int (0 : Int32), w)) else (some (.int (1 : Int32), w))))
set_option maxHeartbeats 4000000 in
set_option maxRecDepth 100000 in
theorem ss_de_isMissing_0 {E : Nat × (Nat → Int32)}  (a0 : Nat) (w : sm_Mem) : sm_Sim E (mi_de_isMissing) 0 [some (.ref a0)] [] w (ff_de_isMissing  a0 w) := by
  unfold ff_de_isMissing
  refine sm_aload_n ii_de_isMissing_0 rfl ?_
  refine sm_getIs ii_de_isMissing_1 fl_de_21 (fun x1 => ?_)
  refine sm_if_ge 11 ii_de_isMissing_4 (by decide) ?_ ?_
  · refine sm_iconst (0 : Int32) ii_de_isMissing_11 (by decide) ?_
    exact sm_zret1 ii_de_isMissing_12 rfl (by decide)
  · refine sm_iconst (1 : Int32) ii_de_isMissing_7 (by decide) ?_
    refine sm_goto 12 ii_de_isMissing_8 (by decide) ?_
    exact sm_zret1 ii_de_isMissing_12 rfl (by decide)
set_option maxHeartbeats 4000000 in
set_option maxRecDepth 100000 in
theorem mc_de_isMissing {E : Nat × (Nat → Int32)} (a0 : Nat) (w : sm_Mem) : sm_MC E mi_de_isMissing [.ref a0] w (ff_de_isMissing a0 w) := sm_MC_of E (by decide +kernel) rfl (Nat.le_of_ble_eq_true rfl) (ss_de_isMissing_0 a0 w)
abbrev mi_ho_keptHouses : sm_MI := (⟨"HerOrders", "keptHouses", "()I"⟩, prog_1_method_64_code, 3, (some .int), 2)
set_option maxRecDepth 100000 in
theorem mf_ho_keptHouses : sm_MF mi_ho_keptHouses 0 := ⟨List.mem_of_getElem? (i := 783) (by decide +kernel), List.mem_of_getElem? (i := 69) (by decide +kernel), ⟨by decide, by decide⟩, by decide +kernel⟩
set_option maxRecDepth 100000 in
theorem mv_ho_keptHouses : sm_MFV mi_ho_keptHouses := ⟨List.mem_of_getElem? (i := 782) (by decide +kernel), List.mem_of_getElem? (i := 63) (by decide +kernel)⟩
set_option maxRecDepth 100000 in
theorem ii_ho_keptHouses_0 : sm_D prog_1_method_64_code 0 1 1 (.iconst 0) := ⟨by decide +kernel, rfl⟩
set_option maxRecDepth 100000 in
theorem ii_ho_keptHouses_1 : sm_D prog_1_method_64_code 1 1 2 (.istore_n 1) := ⟨by decide +kernel, rfl⟩
set_option maxRecDepth 100000 in
theorem ii_ho_keptHouses_2 : sm_D prog_1_method_64_code 2 1 3 (.iconst 0) := ⟨by decide +kernel, rfl⟩
set_option maxRecDepth 100000 in
theorem ii_ho_keptHouses_3 : sm_D prog_1_method_64_code 3 1 4 (.istore_n 2) := ⟨by decide +kernel, rfl⟩
set_option maxRecDepth 100000 in
theorem ii_ho_keptHouses_4 : sm_D prog_1_method_64_code 4 1 5 (.iload_n 2) := ⟨by decide +kernel, rfl⟩
set_option maxRecDepth 100000 in
theorem ii_ho_keptHouses_5 : sm_D prog_1_method_64_code 5 1 6 (.iconst 3) := ⟨by decide +kernel, rfl⟩
set_option maxRecDepth 100000 in
theorem ii_ho_keptHouses_6 : sm_D prog_1_method_64_code 6 3 9 (.if_icmp .ge 24) := ⟨by decide +kernel, rfl⟩
set_option maxRecDepth 100000 in
theorem ii_ho_keptHouses_9 : sm_D prog_1_method_64_code 9 1 10 (.aload_n 0) := ⟨by decide +kernel, rfl⟩
set_option maxRecDepth 100000 in
theorem ii_ho_keptHouses_10 : sm_D prog_1_method_64_code 10 3 13 (.getfield 23) := ⟨by decide +kernel, rfl⟩
set_option maxRecDepth 100000 in
theorem ii_ho_keptHouses_13 : sm_D prog_1_method_64_code 13 1 14 (.iload_n 2) := ⟨by decide +kernel, rfl⟩
set_option maxRecDepth 100000 in
theorem ii_ho_keptHouses_14 : sm_D prog_1_method_64_code 14 1 15 (.aaload) := ⟨by decide +kernel, rfl⟩
set_option maxRecDepth 100000 in
theorem ii_ho_keptHouses_15 : sm_D prog_1_method_64_code 15 3 18 (.invokevirtual 182) := ⟨by decide +kernel, rfl⟩
set_option maxRecDepth 100000 in
theorem ii_ho_keptHouses_18 : sm_D prog_1_method_64_code 18 3 21 (.ifCond .ne 6) := ⟨by decide +kernel, rfl⟩
set_option maxRecDepth 100000 in
theorem ii_ho_keptHouses_21 : sm_D prog_1_method_64_code 21 3 24 (.iinc 1 1) := ⟨by decide +kernel, rfl⟩
set_option maxRecDepth 100000 in
theorem ii_ho_keptHouses_24 : sm_D prog_1_method_64_code 24 3 27 (.iinc 2 1) := ⟨by decide +kernel, rfl⟩
set_option maxRecDepth 100000 in
theorem ii_ho_keptHouses_27 : sm_D prog_1_method_64_code 27 3 30 (.goto (-23)) := ⟨by decide +kernel, rfl⟩
set_option maxRecDepth 100000 in
theorem ii_ho_keptHouses_30 : sm_D prog_1_method_64_code 30 1 31 (.iload_n 1) := ⟨by decide +kernel, rfl⟩
set_option maxRecDepth 100000 in
theorem ii_ho_keptHouses_31 : sm_D prog_1_method_64_code 31 1 32 (.ireturn) := ⟨by decide +kernel, rfl⟩
noncomputable def ff_ho_keptHouses_4_b  (self4 : Int32 → Int32 → sm_Mem → sm_R) (a1 : Int32) (a2 : Int32) (w : sm_Mem) : sm_R := (if (3 : Int32) ≤ a2 then (some (.int a1, w)) else (Option.bind (sm_rr 23 a2) fun r1 => (sm_cI (sm_rc r1 0 (ff_de_isMissing (r1) w)) fun x2 w3 => (if x2 = (0 : Int32) then self4 ((a1 + (1 : Int32))) ((a2 + (1 : Int32))) w3 else self4 (a1) ((a2 + (1 : Int32))) w3))))
noncomputable def ff_ho_keptHouses_4_f  : Nat → Int32 → Int32 → sm_Mem → sm_R
  | 0, _, _, _ => none
  | n + 1, a1, a2, w => ff_ho_keptHouses_4_b  (ff_ho_keptHouses_4_f  n) a1 a2 w
noncomputable def ff_ho_keptHouses_4  (a1 : Int32) (a2 : Int32) (w : sm_Mem) : sm_R := ff_ho_keptHouses_4_f  sm_N a1 a2 w
set_option maxHeartbeats 4000000 in
set_option maxRecDepth 100000 in
theorem ss_ho_keptHouses_4_b {E : Nat × (Nat → Int32)}  (self4 : Int32 → Int32 → sm_Mem → sm_R) (hself4 : ∀ (a1 : Int32) (a2 : Int32) (w : sm_Mem), sm_Sim E (mi_ho_keptHouses) 4 [some (.ref 0), some (.int a1), some (.int a2)] [] w (self4 a1 a2 w)) (a1 : Int32) (a2 : Int32) (w : sm_Mem) : sm_Sim E (mi_ho_keptHouses) 4 [some (.ref 0), some (.int a1), some (.int a2)] [] w (ff_ho_keptHouses_4_b  self4 a1 a2 w) := by
  unfold ff_ho_keptHouses_4_b
  refine sm_iload_n ii_ho_keptHouses_4 rfl ?_
  refine sm_iconst (3 : Int32) ii_ho_keptHouses_5 (by decide) ?_
  refine sm_icmp_ge 30 ii_ho_keptHouses_6 (by decide) ?_ ?_
  · refine sm_iload_n ii_ho_keptHouses_30 rfl ?_
    exact sm_iret ii_ho_keptHouses_31 rfl
  · refine sm_aload_n ii_ho_keptHouses_9 rfl ?_
    refine sm_getR 23 ii_ho_keptHouses_10 fl_ho_23 (k := 0) rfl ?_
    refine sm_iload_n ii_ho_keptHouses_13 rfl ?_
    refine sm_aald ii_ho_keptHouses_14 (fun r1 => ?_)
    refine sm_dvI [] [] rfl ii_ho_keptHouses_15 ml_ho_182 (mf_de_isMissing) (mv_de_isMissing) (Nat.le_of_ble_eq_true rfl) rfl 0 rfl rfl rfl (mc_de_isMissing (r1) w) (fun x2 w3 => ?_)
    refine sm_if_ne 24 ii_ho_keptHouses_18 (by decide) ?_ ?_
    · refine sm_iinc (a1 + (1 : Int32)) [some (.ref 0), some (.int (a1 + (1 : Int32))), some (.int a2)] ii_ho_keptHouses_21 rfl rfl rfl rfl ?_
      refine sm_iinc (a2 + (1 : Int32)) [some (.ref 0), some (.int (a1 + (1 : Int32))), some (.int (a2 + (1 : Int32)))] ii_ho_keptHouses_24 rfl rfl rfl rfl ?_
      refine sm_goto 4 ii_ho_keptHouses_27 (by decide) ?_
      exact hself4 ((a1 + (1 : Int32))) ((a2 + (1 : Int32))) w3
    · refine sm_iinc (a2 + (1 : Int32)) [some (.ref 0), some (.int a1), some (.int (a2 + (1 : Int32)))] ii_ho_keptHouses_24 rfl rfl rfl rfl ?_
      refine sm_goto 4 ii_ho_keptHouses_27 (by decide) ?_
      exact hself4 (a1) ((a2 + (1 : Int32))) w3
set_option maxHeartbeats 4000000 in
set_option maxRecDepth 100000 in
theorem ss_ho_keptHouses_4_f {E : Nat × (Nat → Int32)}  : ∀ (n : Nat) (a1 : Int32) (a2 : Int32) (w : sm_Mem), sm_Sim E (mi_ho_keptHouses) 4 [some (.ref 0), some (.int a1), some (.int a2)] [] w (ff_ho_keptHouses_4_f  n a1 a2 w)
  | 0, _, _, _ => fun _ _ h => by cases h
  | n + 1, a1, a2, w => ss_ho_keptHouses_4_b  _ (ss_ho_keptHouses_4_f  n) a1 a2 w
set_option maxHeartbeats 4000000 in
set_option maxRecDepth 100000 in
theorem ss_ho_keptHouses_4 {E : Nat × (Nat → Int32)}  (a1 : Int32) (a2 : Int32) (w : sm_Mem) : sm_Sim E (mi_ho_keptHouses) 4 [some (.ref 0), some (.int a1), some (.int a2)] [] w (ff_ho_keptHouses_4  a1 a2 w) := ss_ho_keptHouses_4_f  sm_N a1 a2 w
noncomputable def ff_ho_keptHouses   (w : sm_Mem) : sm_R := ff_ho_keptHouses_4 ((0 : Int32)) ((0 : Int32)) w
set_option maxHeartbeats 4000000 in
set_option maxRecDepth 100000 in
theorem ss_ho_keptHouses_0 {E : Nat × (Nat → Int32)}   (w : sm_Mem) : sm_Sim E (mi_ho_keptHouses) 0 [some (.ref 0), none, none] [] w (ff_ho_keptHouses   w) := by
  unfold ff_ho_keptHouses
  refine sm_iconst (0 : Int32) ii_ho_keptHouses_0 (by decide) ?_
  refine sm_istore_n [some (.ref 0), some (.int (0 : Int32)), none] ii_ho_keptHouses_1 rfl rfl ?_
  refine sm_iconst (0 : Int32) ii_ho_keptHouses_2 (by decide) ?_
  refine sm_istore_n [some (.ref 0), some (.int (0 : Int32)), some (.int (0 : Int32))] ii_ho_keptHouses_3 rfl rfl ?_
  exact ss_ho_keptHouses_4 ((0 : Int32)) ((0 : Int32)) w
set_option maxHeartbeats 4000000 in
set_option maxRecDepth 100000 in
theorem mc_ho_keptHouses {E : Nat × (Nat → Int32)}  (w : sm_Mem) : sm_MC E mi_ho_keptHouses [.ref 0] w (ff_ho_keptHouses  w) := sm_MC_of E (by decide +kernel) rfl (Nat.le_of_ble_eq_true rfl) (ss_ho_keptHouses_0  w)
abbrev mi_ho_tally : sm_MI := (⟨"HerOrders", "tally", "(I)I"⟩, prog_1_method_62_code, 2, (some .int), 5)
set_option maxRecDepth 100000 in
theorem mf_ho_tally : sm_MF mi_ho_tally 1 := ⟨List.mem_of_getElem? (i := 761) (by decide +kernel), List.mem_of_getElem? (i := 69) (by decide +kernel), ⟨by decide, by decide⟩, by decide +kernel⟩
set_option maxRecDepth 100000 in
theorem mv_ho_tally : sm_MFV mi_ho_tally := ⟨List.mem_of_getElem? (i := 760) (by decide +kernel), List.mem_of_getElem? (i := 59) (by decide +kernel)⟩
set_option maxRecDepth 100000 in
theorem ii_ho_tally_0 : sm_D prog_1_method_62_code 0 1 1 (.iload_n 1) := ⟨by decide +kernel, rfl⟩
set_option maxRecDepth 100000 in
theorem ii_ho_tally_1 : sm_D prog_1_method_62_code 1 55 56 (.tableswitch 138 0 9 #[55, 63, 71, 82, 90, 98, 106, 114, 122, 130]) := ⟨by decide +kernel, rfl⟩
set_option maxRecDepth 100000 in
theorem ii_ho_tally_56 : sm_D prog_1_method_62_code 56 1 57 (.aload_n 0) := ⟨by decide +kernel, rfl⟩
set_option maxRecDepth 100000 in
theorem ii_ho_tally_57 : sm_D prog_1_method_62_code 57 3 60 (.getfield 31) := ⟨by decide +kernel, rfl⟩
set_option maxRecDepth 100000 in
theorem ii_ho_tally_60 : sm_D prog_1_method_62_code 60 3 63 (.getfield 115) := ⟨by decide +kernel, rfl⟩
set_option maxRecDepth 100000 in
theorem ii_ho_tally_63 : sm_D prog_1_method_62_code 63 1 64 (.ireturn) := ⟨by decide +kernel, rfl⟩
set_option maxRecDepth 100000 in
theorem ii_ho_tally_64 : sm_D prog_1_method_62_code 64 1 65 (.aload_n 0) := ⟨by decide +kernel, rfl⟩
set_option maxRecDepth 100000 in
theorem ii_ho_tally_65 : sm_D prog_1_method_62_code 65 3 68 (.getfield 31) := ⟨by decide +kernel, rfl⟩
set_option maxRecDepth 100000 in
theorem ii_ho_tally_68 : sm_D prog_1_method_62_code 68 3 71 (.getfield 135) := ⟨by decide +kernel, rfl⟩
set_option maxRecDepth 100000 in
theorem ii_ho_tally_71 : sm_D prog_1_method_62_code 71 1 72 (.ireturn) := ⟨by decide +kernel, rfl⟩
set_option maxRecDepth 100000 in
theorem ii_ho_tally_72 : sm_D prog_1_method_62_code 72 1 73 (.aload_n 0) := ⟨by decide +kernel, rfl⟩
set_option maxRecDepth 100000 in
theorem ii_ho_tally_73 : sm_D prog_1_method_62_code 73 3 76 (.getfield 31) := ⟨by decide +kernel, rfl⟩
set_option maxRecDepth 100000 in
theorem ii_ho_tally_76 : sm_D prog_1_method_62_code 76 3 79 (.getfield 171) := ⟨by decide +kernel, rfl⟩
set_option maxRecDepth 100000 in
theorem ii_ho_tally_79 : sm_D prog_1_method_62_code 79 3 82 (.getfield 114) := ⟨by decide +kernel, rfl⟩
set_option maxRecDepth 100000 in
theorem ii_ho_tally_82 : sm_D prog_1_method_62_code 82 1 83 (.ireturn) := ⟨by decide +kernel, rfl⟩
set_option maxRecDepth 100000 in
theorem ii_ho_tally_83 : sm_D prog_1_method_62_code 83 1 84 (.aload_n 0) := ⟨by decide +kernel, rfl⟩
set_option maxRecDepth 100000 in
theorem ii_ho_tally_84 : sm_D prog_1_method_62_code 84 3 87 (.getfield 31) := ⟨by decide +kernel, rfl⟩
set_option maxRecDepth 100000 in
theorem ii_ho_tally_87 : sm_D prog_1_method_62_code 87 3 90 (.getfield 162) := ⟨by decide +kernel, rfl⟩
set_option maxRecDepth 100000 in
theorem ii_ho_tally_90 : sm_D prog_1_method_62_code 90 1 91 (.ireturn) := ⟨by decide +kernel, rfl⟩
set_option maxRecDepth 100000 in
theorem ii_ho_tally_91 : sm_D prog_1_method_62_code 91 1 92 (.aload_n 0) := ⟨by decide +kernel, rfl⟩
set_option maxRecDepth 100000 in
theorem ii_ho_tally_92 : sm_D prog_1_method_62_code 92 3 95 (.getfield 31) := ⟨by decide +kernel, rfl⟩
set_option maxRecDepth 100000 in
theorem ii_ho_tally_95 : sm_D prog_1_method_62_code 95 3 98 (.getfield 368) := ⟨by decide +kernel, rfl⟩
set_option maxRecDepth 100000 in
theorem ii_ho_tally_98 : sm_D prog_1_method_62_code 98 1 99 (.ireturn) := ⟨by decide +kernel, rfl⟩
set_option maxRecDepth 100000 in
theorem ii_ho_tally_99 : sm_D prog_1_method_62_code 99 1 100 (.aload_n 0) := ⟨by decide +kernel, rfl⟩
set_option maxRecDepth 100000 in
theorem ii_ho_tally_100 : sm_D prog_1_method_62_code 100 3 103 (.getfield 31) := ⟨by decide +kernel, rfl⟩
set_option maxRecDepth 100000 in
theorem ii_ho_tally_103 : sm_D prog_1_method_62_code 103 3 106 (.invokevirtual 371) := ⟨by decide +kernel, rfl⟩
set_option maxRecDepth 100000 in
theorem ii_ho_tally_106 : sm_D prog_1_method_62_code 106 1 107 (.ireturn) := ⟨by decide +kernel, rfl⟩
set_option maxRecDepth 100000 in
theorem ii_ho_tally_107 : sm_D prog_1_method_62_code 107 1 108 (.aload_n 0) := ⟨by decide +kernel, rfl⟩
set_option maxRecDepth 100000 in
theorem ii_ho_tally_108 : sm_D prog_1_method_62_code 108 3 111 (.getfield 31) := ⟨by decide +kernel, rfl⟩
set_option maxRecDepth 100000 in
theorem ii_ho_tally_111 : sm_D prog_1_method_62_code 111 3 114 (.invokevirtual 374) := ⟨by decide +kernel, rfl⟩
set_option maxRecDepth 100000 in
theorem ii_ho_tally_114 : sm_D prog_1_method_62_code 114 1 115 (.ireturn) := ⟨by decide +kernel, rfl⟩
set_option maxRecDepth 100000 in
theorem ii_ho_tally_115 : sm_D prog_1_method_62_code 115 1 116 (.aload_n 0) := ⟨by decide +kernel, rfl⟩
set_option maxRecDepth 100000 in
theorem ii_ho_tally_116 : sm_D prog_1_method_62_code 116 3 119 (.getfield 31) := ⟨by decide +kernel, rfl⟩
set_option maxRecDepth 100000 in
theorem ii_ho_tally_119 : sm_D prog_1_method_62_code 119 3 122 (.invokevirtual 377) := ⟨by decide +kernel, rfl⟩
set_option maxRecDepth 100000 in
theorem ii_ho_tally_122 : sm_D prog_1_method_62_code 122 1 123 (.ireturn) := ⟨by decide +kernel, rfl⟩
set_option maxRecDepth 100000 in
theorem ii_ho_tally_123 : sm_D prog_1_method_62_code 123 1 124 (.aload_n 0) := ⟨by decide +kernel, rfl⟩
set_option maxRecDepth 100000 in
theorem ii_ho_tally_124 : sm_D prog_1_method_62_code 124 3 127 (.getfield 11) := ⟨by decide +kernel, rfl⟩
set_option maxRecDepth 100000 in
theorem ii_ho_tally_127 : sm_D prog_1_method_62_code 127 3 130 (.invokestatic 380) := ⟨by decide +kernel, rfl⟩
set_option maxRecDepth 100000 in
theorem ii_ho_tally_130 : sm_D prog_1_method_62_code 130 1 131 (.ireturn) := ⟨by decide +kernel, rfl⟩
set_option maxRecDepth 100000 in
theorem ii_ho_tally_131 : sm_D prog_1_method_62_code 131 1 132 (.aload_n 0) := ⟨by decide +kernel, rfl⟩
set_option maxRecDepth 100000 in
theorem ii_ho_tally_132 : sm_D prog_1_method_62_code 132 3 135 (.getfield 18) := ⟨by decide +kernel, rfl⟩
set_option maxRecDepth 100000 in
theorem ii_ho_tally_135 : sm_D prog_1_method_62_code 135 3 138 (.invokestatic 380) := ⟨by decide +kernel, rfl⟩
set_option maxRecDepth 100000 in
theorem ii_ho_tally_138 : sm_D prog_1_method_62_code 138 1 139 (.ireturn) := ⟨by decide +kernel, rfl⟩
set_option maxRecDepth 100000 in
theorem ii_ho_tally_139 : sm_D prog_1_method_62_code 139 1 140 (.aload_n 0) := ⟨by decide +kernel, rfl⟩
set_option maxRecDepth 100000 in
theorem ii_ho_tally_140 : sm_D prog_1_method_62_code 140 3 143 (.invokevirtual 384) := ⟨by decide +kernel, rfl⟩
set_option maxRecDepth 100000 in
theorem ii_ho_tally_143 : sm_D prog_1_method_62_code 143 1 144 (.ireturn) := ⟨by decide +kernel, rfl⟩
noncomputable def ff_ho_tally  (a1 : Int32) (w : sm_Mem) : sm_R := (sm_sw a1 (0) [((some (.int (w.1 36 0), w))), ((some (.int (w.1 36 7), w))), ((some (.int (w.1 45 3), w))), ((some (.int (w.1 36 11), w))), ((some (.int (w.1 36 8), w))), ((sm_cI (ff_hs_breathLeft  w) fun x1 w2 => (some (.int x1, w2)))), ((sm_cI (ff_hs_sayableByAny  w) fun x3 w4 => (some (.int x3, w4)))), ((sm_cI (ff_hs_parrots  w) fun x5 w6 => (some (.int x5, w6)))), ((sm_cI (ff_ho_present (1) w) fun x7 w8 => (some (.int x7, w8)))), ((sm_cI (ff_ho_present (14) w) fun x9 w10 => (some (.int x9, w10))))] ((sm_cI (ff_ho_keptHouses  w) fun x11 w12 => (some (.int x11, w12)))))
set_option maxHeartbeats 4000000 in
set_option maxRecDepth 100000 in
theorem ss_ho_tally_0 {E : Nat × (Nat → Int32)}  (a1 : Int32) (w : sm_Mem) : sm_Sim E (mi_ho_tally) 0 [some (.ref 0), some (.int a1)] [] w (ff_ho_tally  a1 w) := by
  unfold ff_ho_tally
  refine sm_iload_n ii_ho_tally_0 rfl ?_
  refine sm_table [56, 64, 72, 83, 91, 99, 107, 115, 123, 131] 139 ii_ho_tally_1 rfl rfl rfl ⟨?_, ?_, ?_, ?_, ?_, ?_, ?_, ?_, ?_, ?_, trivial⟩ ?_
  · refine sm_aload_n ii_ho_tally_56 rfl ?_
    refine sm_getR 36 ii_ho_tally_57 fl_ho_31 (k := 0) rfl ?_
    refine sm_getI ii_ho_tally_60 fl_ho_115 (k := 36) rfl ?_
    exact sm_iret ii_ho_tally_63 rfl
  · refine sm_aload_n ii_ho_tally_64 rfl ?_
    refine sm_getR 36 ii_ho_tally_65 fl_ho_31 (k := 0) rfl ?_
    refine sm_getI ii_ho_tally_68 fl_ho_135 (k := 36) rfl ?_
    exact sm_iret ii_ho_tally_71 rfl
  · refine sm_aload_n ii_ho_tally_72 rfl ?_
    refine sm_getR 36 ii_ho_tally_73 fl_ho_31 (k := 0) rfl ?_
    refine sm_getR 45 ii_ho_tally_76 fl_ho_171 (k := 36) rfl ?_
    refine sm_getI ii_ho_tally_79 fl_ho_114 (k := 45) rfl ?_
    exact sm_iret ii_ho_tally_82 rfl
  · refine sm_aload_n ii_ho_tally_83 rfl ?_
    refine sm_getR 36 ii_ho_tally_84 fl_ho_31 (k := 0) rfl ?_
    refine sm_getI ii_ho_tally_87 fl_ho_162 (k := 36) rfl ?_
    exact sm_iret ii_ho_tally_90 rfl
  · refine sm_aload_n ii_ho_tally_91 rfl ?_
    refine sm_getR 36 ii_ho_tally_92 fl_ho_31 (k := 0) rfl ?_
    refine sm_getI ii_ho_tally_95 fl_ho_368 (k := 36) rfl ?_
    exact sm_iret ii_ho_tally_98 rfl
  · refine sm_aload_n ii_ho_tally_99 rfl ?_
    refine sm_getR 36 ii_ho_tally_100 fl_ho_31 (k := 0) rfl ?_
    refine sm_cvI [] [] rfl ii_ho_tally_103 ml_ho_371 (mf_hs_breathLeft) (mv_hs_breathLeft) (Nat.le_of_ble_eq_true rfl) rfl 1 rfl rfl rfl rfl (mc_hs_breathLeft  w) (fun x1 w2 => ?_)
    exact sm_iret ii_ho_tally_106 rfl
  · refine sm_aload_n ii_ho_tally_107 rfl ?_
    refine sm_getR 36 ii_ho_tally_108 fl_ho_31 (k := 0) rfl ?_
    refine sm_cvI [] [] rfl ii_ho_tally_111 ml_ho_374 (mf_hs_sayableByAny) (mv_hs_sayableByAny) (Nat.le_of_ble_eq_true rfl) rfl 1 rfl rfl rfl rfl (mc_hs_sayableByAny  w) (fun x3 w4 => ?_)
    exact sm_iret ii_ho_tally_114 rfl
  · refine sm_aload_n ii_ho_tally_115 rfl ?_
    refine sm_getR 36 ii_ho_tally_116 fl_ho_31 (k := 0) rfl ?_
    refine sm_cvI [] [] rfl ii_ho_tally_119 ml_ho_377 (mf_hs_parrots) (mv_hs_parrots) (Nat.le_of_ble_eq_true rfl) rfl 1 rfl rfl rfl rfl (mc_hs_parrots  w) (fun x5 w6 => ?_)
    exact sm_iret ii_ho_tally_122 rfl
  · refine sm_aload_n ii_ho_tally_123 rfl ?_
    refine sm_getR 1 ii_ho_tally_124 fl_ho_11 (k := 0) rfl ?_
    refine sm_csI [.ref 1] [] rfl ii_ho_tally_127 ml_ho_380 (mf_ho_present) (mv_ho_present) (Nat.le_of_ble_eq_true rfl) rfl rfl rfl (mc_ho_present (1) w) (fun x7 w8 => ?_)
    exact sm_iret ii_ho_tally_130 rfl
  · refine sm_aload_n ii_ho_tally_131 rfl ?_
    refine sm_getR 14 ii_ho_tally_132 fl_ho_18 (k := 0) rfl ?_
    refine sm_csI [.ref 14] [] rfl ii_ho_tally_135 ml_ho_380 (mf_ho_present) (mv_ho_present) (Nat.le_of_ble_eq_true rfl) rfl rfl rfl (mc_ho_present (14) w) (fun x9 w10 => ?_)
    exact sm_iret ii_ho_tally_138 rfl
  · refine sm_aload_n ii_ho_tally_139 rfl ?_
    refine sm_cvI [] [] rfl ii_ho_tally_140 ml_ho_384 (mf_ho_keptHouses) (mv_ho_keptHouses) (Nat.le_of_ble_eq_true rfl) rfl 6 rfl rfl rfl rfl (mc_ho_keptHouses  w) (fun x11 w12 => ?_)
    exact sm_iret ii_ho_tally_143 rfl
set_option maxHeartbeats 4000000 in
set_option maxRecDepth 100000 in
theorem mc_ho_tally {E : Nat × (Nat → Int32)} (a1 : Int32) (w : sm_Mem) : sm_MC E mi_ho_tally [.ref 0, .int a1] w (ff_ho_tally a1 w) := sm_MC_of E (by decide +kernel) rfl (Nat.le_of_ble_eq_true rfl) (ss_ho_tally_0 a1 w)
abbrev mi_hs_saidBy : sm_MI := (⟨"HerOrders$House", "saidBy", "(I)I"⟩, prog_3_method_23_code, 4, (some .int), 1)
set_option maxRecDepth 100000 in
theorem mf_hs_saidBy : sm_MF mi_hs_saidBy 1 := ⟨List.mem_of_getElem? (i := 802) (by decide +kernel), List.mem_of_getElem? (i := 73) (by decide +kernel), ⟨by decide, by decide⟩, by decide +kernel⟩
set_option maxRecDepth 100000 in
theorem mv_hs_saidBy : sm_MFV mi_hs_saidBy := ⟨List.mem_of_getElem? (i := 801) (by decide +kernel), List.mem_of_getElem? (i := 66) (by decide +kernel)⟩
set_option maxRecDepth 100000 in
theorem ii_hs_saidBy_0 : sm_D prog_3_method_23_code 0 1 1 (.iconst 0) := ⟨by decide +kernel, rfl⟩
set_option maxRecDepth 100000 in
theorem ii_hs_saidBy_1 : sm_D prog_3_method_23_code 1 1 2 (.istore_n 2) := ⟨by decide +kernel, rfl⟩
set_option maxRecDepth 100000 in
theorem ii_hs_saidBy_2 : sm_D prog_3_method_23_code 2 1 3 (.iconst 0) := ⟨by decide +kernel, rfl⟩
set_option maxRecDepth 100000 in
theorem ii_hs_saidBy_3 : sm_D prog_3_method_23_code 3 1 4 (.istore_n 3) := ⟨by decide +kernel, rfl⟩
set_option maxRecDepth 100000 in
theorem ii_hs_saidBy_4 : sm_D prog_3_method_23_code 4 1 5 (.iload_n 3) := ⟨by decide +kernel, rfl⟩
set_option maxRecDepth 100000 in
theorem ii_hs_saidBy_5 : sm_D prog_3_method_23_code 5 1 6 (.aload_n 0) := ⟨by decide +kernel, rfl⟩
set_option maxRecDepth 100000 in
theorem ii_hs_saidBy_6 : sm_D prog_3_method_23_code 6 3 9 (.getfield 89) := ⟨by decide +kernel, rfl⟩
set_option maxRecDepth 100000 in
theorem ii_hs_saidBy_9 : sm_D prog_3_method_23_code 9 3 12 (.if_icmp .ge 22) := ⟨by decide +kernel, rfl⟩
set_option maxRecDepth 100000 in
theorem ii_hs_saidBy_12 : sm_D prog_3_method_23_code 12 1 13 (.aload_n 0) := ⟨by decide +kernel, rfl⟩
set_option maxRecDepth 100000 in
theorem ii_hs_saidBy_13 : sm_D prog_3_method_23_code 13 3 16 (.getfield 33) := ⟨by decide +kernel, rfl⟩
set_option maxRecDepth 100000 in
theorem ii_hs_saidBy_16 : sm_D prog_3_method_23_code 16 1 17 (.iload_n 3) := ⟨by decide +kernel, rfl⟩
set_option maxRecDepth 100000 in
theorem ii_hs_saidBy_17 : sm_D prog_3_method_23_code 17 1 18 (.iaload) := ⟨by decide +kernel, rfl⟩
set_option maxRecDepth 100000 in
theorem ii_hs_saidBy_18 : sm_D prog_3_method_23_code 18 1 19 (.iload_n 1) := ⟨by decide +kernel, rfl⟩
set_option maxRecDepth 100000 in
theorem ii_hs_saidBy_19 : sm_D prog_3_method_23_code 19 3 22 (.if_icmp .ne 6) := ⟨by decide +kernel, rfl⟩
set_option maxRecDepth 100000 in
theorem ii_hs_saidBy_22 : sm_D prog_3_method_23_code 22 3 25 (.iinc 2 1) := ⟨by decide +kernel, rfl⟩
set_option maxRecDepth 100000 in
theorem ii_hs_saidBy_25 : sm_D prog_3_method_23_code 25 3 28 (.iinc 3 1) := ⟨by decide +kernel, rfl⟩
set_option maxRecDepth 100000 in
theorem ii_hs_saidBy_28 : sm_D prog_3_method_23_code 28 3 31 (.goto (-24)) := ⟨by decide +kernel, rfl⟩
set_option maxRecDepth 100000 in
theorem ii_hs_saidBy_31 : sm_D prog_3_method_23_code 31 1 32 (.iload_n 2) := ⟨by decide +kernel, rfl⟩
set_option maxRecDepth 100000 in
theorem ii_hs_saidBy_32 : sm_D prog_3_method_23_code 32 1 33 (.ireturn) := ⟨by decide +kernel, rfl⟩
noncomputable def ff_hs_saidBy_4_b  (self4 : Int32 → Int32 → Int32 → sm_Mem → sm_R) (a1 : Int32) (a2 : Int32) (a3 : Int32) (w : sm_Mem) : sm_R := (if (w.1 36 11) ≤ a3 then (some (.int a2, w)) else (Option.bind (sm_rd w 44 8 a3) fun x1 => (if x1 = a1 then self4 (a1) ((a2 + (1 : Int32))) ((a3 + (1 : Int32))) w else self4 (a1) (a2) ((a3 + (1 : Int32))) w)))
noncomputable def ff_hs_saidBy_4_f  : Nat → Int32 → Int32 → Int32 → sm_Mem → sm_R
  | 0, _, _, _, _ => none
  | n + 1, a1, a2, a3, w => ff_hs_saidBy_4_b  (ff_hs_saidBy_4_f  n) a1 a2 a3 w
noncomputable def ff_hs_saidBy_4  (a1 : Int32) (a2 : Int32) (a3 : Int32) (w : sm_Mem) : sm_R := ff_hs_saidBy_4_f  sm_N a1 a2 a3 w
set_option maxHeartbeats 4000000 in
set_option maxRecDepth 100000 in
theorem ss_hs_saidBy_4_b {E : Nat × (Nat → Int32)}  (self4 : Int32 → Int32 → Int32 → sm_Mem → sm_R) (hself4 : ∀ (a1 : Int32) (a2 : Int32) (a3 : Int32) (w : sm_Mem), sm_Sim E (mi_hs_saidBy) 4 [some (.ref 36), some (.int a1), some (.int a2), some (.int a3)] [] w (self4 a1 a2 a3 w)) (a1 : Int32) (a2 : Int32) (a3 : Int32) (w : sm_Mem) : sm_Sim E (mi_hs_saidBy) 4 [some (.ref 36), some (.int a1), some (.int a2), some (.int a3)] [] w (ff_hs_saidBy_4_b  self4 a1 a2 a3 w) := by
  unfold ff_hs_saidBy_4_b
  refine sm_iload_n ii_hs_saidBy_4 rfl ?_
  refine sm_aload_n ii_hs_saidBy_5 rfl ?_
  refine sm_getI ii_hs_saidBy_6 fl_hs_89 (k := 36) rfl ?_
  refine sm_icmp_ge 31 ii_hs_saidBy_9 (by decide) ?_ ?_
  · refine sm_iload_n ii_hs_saidBy_31 rfl ?_
    exact sm_iret ii_hs_saidBy_32 rfl
  · refine sm_aload_n ii_hs_saidBy_12 rfl ?_
    refine sm_getR 44 ii_hs_saidBy_13 fl_hs_33 (k := 36) rfl ?_
    refine sm_iload_n ii_hs_saidBy_16 rfl ?_
    refine sm_iald ii_hs_saidBy_17 (k := 44) rfl (fun x1 => ?_)
    refine sm_iload_n ii_hs_saidBy_18 rfl ?_
    refine sm_icmp_ne 25 ii_hs_saidBy_19 (by decide) ?_ ?_
    · refine sm_iinc (a2 + (1 : Int32)) [some (.ref 36), some (.int a1), some (.int (a2 + (1 : Int32))), some (.int a3)] ii_hs_saidBy_22 rfl rfl rfl rfl ?_
      refine sm_iinc (a3 + (1 : Int32)) [some (.ref 36), some (.int a1), some (.int (a2 + (1 : Int32))), some (.int (a3 + (1 : Int32)))] ii_hs_saidBy_25 rfl rfl rfl rfl ?_
      refine sm_goto 4 ii_hs_saidBy_28 (by decide) ?_
      exact hself4 (a1) ((a2 + (1 : Int32))) ((a3 + (1 : Int32))) w
    · refine sm_iinc (a3 + (1 : Int32)) [some (.ref 36), some (.int a1), some (.int a2), some (.int (a3 + (1 : Int32)))] ii_hs_saidBy_25 rfl rfl rfl rfl ?_
      refine sm_goto 4 ii_hs_saidBy_28 (by decide) ?_
      exact hself4 (a1) (a2) ((a3 + (1 : Int32))) w
set_option maxHeartbeats 4000000 in
set_option maxRecDepth 100000 in
theorem ss_hs_saidBy_4_f {E : Nat × (Nat → Int32)}  : ∀ (n : Nat) (a1 : Int32) (a2 : Int32) (a3 : Int32) (w : sm_Mem), sm_Sim E (mi_hs_saidBy) 4 [some (.ref 36), some (.int a1), some (.int a2), some (.int a3)] [] w (ff_hs_saidBy_4_f  n a1 a2 a3 w)
  | 0, _, _, _, _ => fun _ _ h => by cases h
  | n + 1, a1, a2, a3, w => ss_hs_saidBy_4_b  _ (ss_hs_saidBy_4_f  n) a1 a2 a3 w
set_option maxHeartbeats 4000000 in
set_option maxRecDepth 100000 in
theorem ss_hs_saidBy_4 {E : Nat × (Nat → Int32)}  (a1 : Int32) (a2 : Int32) (a3 : Int32) (w : sm_Mem) : sm_Sim E (mi_hs_saidBy) 4 [some (.ref 36), some (.int a1), some (.int a2), some (.int a3)] [] w (ff_hs_saidBy_4  a1 a2 a3 w) := ss_hs_saidBy_4_f  sm_N a1 a2 a3 w
noncomputable def ff_hs_saidBy  (a1 : Int32) (w : sm_Mem) : sm_R := ff_hs_saidBy_4 (a1) ((0 : Int32)) ((0 : Int32)) w
set_option maxHeartbeats 4000000 in
set_option maxRecDepth 100000 in
theorem ss_hs_saidBy_0 {E : Nat × (Nat → Int32)}  (a1 : Int32) (w : sm_Mem) : sm_Sim E (mi_hs_saidBy) 0 [some (.ref 36), some (.int a1), none, none] [] w (ff_hs_saidBy  a1 w) := by
  unfold ff_hs_saidBy
  refine sm_iconst (0 : Int32) ii_hs_saidBy_0 (by decide) ?_
  refine sm_istore_n [some (.ref 36), some (.int a1), some (.int (0 : Int32)), none] ii_hs_saidBy_1 rfl rfl ?_
  refine sm_iconst (0 : Int32) ii_hs_saidBy_2 (by decide) ?_
  refine sm_istore_n [some (.ref 36), some (.int a1), some (.int (0 : Int32)), some (.int (0 : Int32))] ii_hs_saidBy_3 rfl rfl ?_
  exact ss_hs_saidBy_4 (a1) ((0 : Int32)) ((0 : Int32)) w
set_option maxHeartbeats 4000000 in
set_option maxRecDepth 100000 in
theorem mc_hs_saidBy {E : Nat × (Nat → Int32)} (a1 : Int32) (w : sm_Mem) : sm_MC E mi_hs_saidBy [.ref 36, .int a1] w (ff_hs_saidBy a1 w) := sm_MC_of E (by decide +kernel) rfl (Nat.le_of_ble_eq_true rfl) (ss_hs_saidBy_0 a1 w)
abbrev mi_hs_factOf : sm_MI := (⟨"HerOrders$House", "factOf", "(II)I"⟩, prog_3_method_24_code, 3, (some .int), 2)
set_option maxRecDepth 100000 in
theorem mf_hs_factOf : sm_MF mi_hs_factOf 2 := ⟨List.mem_of_getElem? (i := 798) (by decide +kernel), List.mem_of_getElem? (i := 73) (by decide +kernel), ⟨by decide, by decide⟩, by decide +kernel⟩
set_option maxRecDepth 100000 in
theorem mv_hs_factOf : sm_MFV mi_hs_factOf := ⟨List.mem_of_getElem? (i := 797) (by decide +kernel), List.mem_of_getElem? (i := 65) (by decide +kernel)⟩
set_option maxRecDepth 100000 in
theorem ii_hs_factOf_0 : sm_D prog_3_method_24_code 0 1 1 (.iload_n 2) := ⟨by decide +kernel, rfl⟩
set_option maxRecDepth 100000 in
theorem ii_hs_factOf_1 : sm_D prog_3_method_24_code 1 35 36 (.tableswitch 70 0 4 #[35, 42, 49, 56, 63]) := ⟨by decide +kernel, rfl⟩
set_option maxRecDepth 100000 in
theorem ii_hs_factOf_36 : sm_D prog_3_method_24_code 36 1 37 (.aload_n 0) := ⟨by decide +kernel, rfl⟩
set_option maxRecDepth 100000 in
theorem ii_hs_factOf_37 : sm_D prog_3_method_24_code 37 3 40 (.getfield 9) := ⟨by decide +kernel, rfl⟩
set_option maxRecDepth 100000 in
theorem ii_hs_factOf_40 : sm_D prog_3_method_24_code 40 1 41 (.iload_n 1) := ⟨by decide +kernel, rfl⟩
set_option maxRecDepth 100000 in
theorem ii_hs_factOf_41 : sm_D prog_3_method_24_code 41 1 42 (.iaload) := ⟨by decide +kernel, rfl⟩
set_option maxRecDepth 100000 in
theorem ii_hs_factOf_42 : sm_D prog_3_method_24_code 42 1 43 (.ireturn) := ⟨by decide +kernel, rfl⟩
set_option maxRecDepth 100000 in
theorem ii_hs_factOf_43 : sm_D prog_3_method_24_code 43 1 44 (.aload_n 0) := ⟨by decide +kernel, rfl⟩
set_option maxRecDepth 100000 in
theorem ii_hs_factOf_44 : sm_D prog_3_method_24_code 44 3 47 (.getfield 15) := ⟨by decide +kernel, rfl⟩
set_option maxRecDepth 100000 in
theorem ii_hs_factOf_47 : sm_D prog_3_method_24_code 47 1 48 (.iload_n 1) := ⟨by decide +kernel, rfl⟩
set_option maxRecDepth 100000 in
theorem ii_hs_factOf_48 : sm_D prog_3_method_24_code 48 1 49 (.iaload) := ⟨by decide +kernel, rfl⟩
set_option maxRecDepth 100000 in
theorem ii_hs_factOf_49 : sm_D prog_3_method_24_code 49 1 50 (.ireturn) := ⟨by decide +kernel, rfl⟩
set_option maxRecDepth 100000 in
theorem ii_hs_factOf_50 : sm_D prog_3_method_24_code 50 1 51 (.aload_n 0) := ⟨by decide +kernel, rfl⟩
set_option maxRecDepth 100000 in
theorem ii_hs_factOf_51 : sm_D prog_3_method_24_code 51 3 54 (.getfield 24) := ⟨by decide +kernel, rfl⟩
set_option maxRecDepth 100000 in
theorem ii_hs_factOf_54 : sm_D prog_3_method_24_code 54 1 55 (.iload_n 1) := ⟨by decide +kernel, rfl⟩
set_option maxRecDepth 100000 in
theorem ii_hs_factOf_55 : sm_D prog_3_method_24_code 55 1 56 (.iaload) := ⟨by decide +kernel, rfl⟩
set_option maxRecDepth 100000 in
theorem ii_hs_factOf_56 : sm_D prog_3_method_24_code 56 1 57 (.ireturn) := ⟨by decide +kernel, rfl⟩
set_option maxRecDepth 100000 in
theorem ii_hs_factOf_57 : sm_D prog_3_method_24_code 57 1 58 (.aload_n 0) := ⟨by decide +kernel, rfl⟩
set_option maxRecDepth 100000 in
theorem ii_hs_factOf_58 : sm_D prog_3_method_24_code 58 3 61 (.getfield 21) := ⟨by decide +kernel, rfl⟩
set_option maxRecDepth 100000 in
theorem ii_hs_factOf_61 : sm_D prog_3_method_24_code 61 1 62 (.iload_n 1) := ⟨by decide +kernel, rfl⟩
set_option maxRecDepth 100000 in
theorem ii_hs_factOf_62 : sm_D prog_3_method_24_code 62 1 63 (.iaload) := ⟨by decide +kernel, rfl⟩
set_option maxRecDepth 100000 in
theorem ii_hs_factOf_63 : sm_D prog_3_method_24_code 63 1 64 (.ireturn) := ⟨by decide +kernel, rfl⟩
set_option maxRecDepth 100000 in
theorem ii_hs_factOf_64 : sm_D prog_3_method_24_code 64 1 65 (.aload_n 0) := ⟨by decide +kernel, rfl⟩
set_option maxRecDepth 100000 in
theorem ii_hs_factOf_65 : sm_D prog_3_method_24_code 65 3 68 (.getfield 27) := ⟨by decide +kernel, rfl⟩
set_option maxRecDepth 100000 in
theorem ii_hs_factOf_68 : sm_D prog_3_method_24_code 68 1 69 (.iload_n 1) := ⟨by decide +kernel, rfl⟩
set_option maxRecDepth 100000 in
theorem ii_hs_factOf_69 : sm_D prog_3_method_24_code 69 1 70 (.iaload) := ⟨by decide +kernel, rfl⟩
set_option maxRecDepth 100000 in
theorem ii_hs_factOf_70 : sm_D prog_3_method_24_code 70 1 71 (.ireturn) := ⟨by decide +kernel, rfl⟩
set_option maxRecDepth 100000 in
theorem ii_hs_factOf_71 : sm_D prog_3_method_24_code 71 1 72 (.aload_n 0) := ⟨by decide +kernel, rfl⟩
set_option maxRecDepth 100000 in
theorem ii_hs_factOf_72 : sm_D prog_3_method_24_code 72 1 73 (.iload_n 1) := ⟨by decide +kernel, rfl⟩
set_option maxRecDepth 100000 in
theorem ii_hs_factOf_73 : sm_D prog_3_method_24_code 73 3 76 (.invokevirtual 129) := ⟨by decide +kernel, rfl⟩
set_option maxRecDepth 100000 in
theorem ii_hs_factOf_76 : sm_D prog_3_method_24_code 76 1 77 (.ireturn) := ⟨by decide +kernel, rfl⟩
noncomputable def ff_hs_factOf  (a1 : Int32) (a2 : Int32) (w : sm_Mem) : sm_R := (sm_sw a2 (0) [((Option.bind (sm_rd w 37 6 a1) fun x1 => (some (.int x1, w)))), ((Option.bind (sm_rd w 38 6 a1) fun x2 => (some (.int x2, w)))), ((Option.bind (sm_rd w 41 6 a1) fun x3 => (some (.int x3, w)))), ((Option.bind (sm_rd w 40 6 a1) fun x4 => (some (.int x4, w)))), ((Option.bind (sm_rd w 42 6 a1) fun x5 => (some (.int x5, w))))] ((sm_cI (ff_hs_saidBy (a1) w) fun x6 w7 => (some (.int x6, w7)))))
set_option maxHeartbeats 4000000 in
set_option maxRecDepth 100000 in
theorem ss_hs_factOf_0 {E : Nat × (Nat → Int32)}  (a1 : Int32) (a2 : Int32) (w : sm_Mem) : sm_Sim E (mi_hs_factOf) 0 [some (.ref 36), some (.int a1), some (.int a2)] [] w (ff_hs_factOf  a1 a2 w) := by
  unfold ff_hs_factOf
  refine sm_iload_n ii_hs_factOf_0 rfl ?_
  refine sm_table [36, 43, 50, 57, 64] 71 ii_hs_factOf_1 rfl rfl rfl ⟨?_, ?_, ?_, ?_, ?_, trivial⟩ ?_
  · refine sm_aload_n ii_hs_factOf_36 rfl ?_
    refine sm_getR 37 ii_hs_factOf_37 fl_hs_9 (k := 36) rfl ?_
    refine sm_iload_n ii_hs_factOf_40 rfl ?_
    refine sm_iald ii_hs_factOf_41 (k := 37) rfl (fun x1 => ?_)
    exact sm_iret ii_hs_factOf_42 rfl
  · refine sm_aload_n ii_hs_factOf_43 rfl ?_
    refine sm_getR 38 ii_hs_factOf_44 fl_hs_15 (k := 36) rfl ?_
    refine sm_iload_n ii_hs_factOf_47 rfl ?_
    refine sm_iald ii_hs_factOf_48 (k := 38) rfl (fun x2 => ?_)
    exact sm_iret ii_hs_factOf_49 rfl
  · refine sm_aload_n ii_hs_factOf_50 rfl ?_
    refine sm_getR 41 ii_hs_factOf_51 fl_hs_24 (k := 36) rfl ?_
    refine sm_iload_n ii_hs_factOf_54 rfl ?_
    refine sm_iald ii_hs_factOf_55 (k := 41) rfl (fun x3 => ?_)
    exact sm_iret ii_hs_factOf_56 rfl
  · refine sm_aload_n ii_hs_factOf_57 rfl ?_
    refine sm_getR 40 ii_hs_factOf_58 fl_hs_21 (k := 36) rfl ?_
    refine sm_iload_n ii_hs_factOf_61 rfl ?_
    refine sm_iald ii_hs_factOf_62 (k := 40) rfl (fun x4 => ?_)
    exact sm_iret ii_hs_factOf_63 rfl
  · refine sm_aload_n ii_hs_factOf_64 rfl ?_
    refine sm_getR 42 ii_hs_factOf_65 fl_hs_27 (k := 36) rfl ?_
    refine sm_iload_n ii_hs_factOf_68 rfl ?_
    refine sm_iald ii_hs_factOf_69 (k := 42) rfl (fun x5 => ?_)
    exact sm_iret ii_hs_factOf_70 rfl
  · refine sm_aload_n ii_hs_factOf_71 rfl ?_
    refine sm_iload_n ii_hs_factOf_72 rfl ?_
    refine sm_cvI [.int a1] [] rfl ii_hs_factOf_73 ml_hs_129 (mf_hs_saidBy) (mv_hs_saidBy) (Nat.le_of_ble_eq_true rfl) rfl 1 rfl rfl rfl rfl (mc_hs_saidBy (a1) w) (fun x6 w7 => ?_)
    exact sm_iret ii_hs_factOf_76 rfl
set_option maxHeartbeats 4000000 in
set_option maxRecDepth 100000 in
theorem mc_hs_factOf {E : Nat × (Nat → Int32)} (a1 : Int32) (a2 : Int32) (w : sm_Mem) : sm_MC E mi_hs_factOf [.ref 36, .int a1, .int a2] w (ff_hs_factOf a1 a2 w) := sm_MC_of E (by decide +kernel) rfl (Nat.le_of_ble_eq_true rfl) (ss_hs_factOf_0 a1 a2 w)
abbrev mi_hs_mixedInto : sm_MI := (⟨"HerOrders$House", "mixedInto", "(J)J"⟩, prog_3_method_28_code, 7, (some .long), 3)
set_option maxRecDepth 100000 in
theorem mf_hs_mixedInto : sm_MF mi_hs_mixedInto 1 := ⟨List.mem_of_getElem? (i := 793) (by decide +kernel), List.mem_of_getElem? (i := 73) (by decide +kernel), ⟨by decide, by decide⟩, by decide +kernel⟩
set_option maxRecDepth 100000 in
theorem mv_hs_mixedInto : sm_MFV mi_hs_mixedInto := ⟨List.mem_of_getElem? (i := 792) (by decide +kernel), List.mem_of_getElem? (i := 64) (by decide +kernel)⟩
set_option maxRecDepth 100000 in
theorem ii_hs_mixedInto_0 : sm_D prog_3_method_28_code 0 1 1 (.lload_n 1) := ⟨by decide +kernel, rfl⟩
set_option maxRecDepth 100000 in
theorem ii_hs_mixedInto_1 : sm_D prog_3_method_28_code 1 1 2 (.lstore_n 3) := ⟨by decide +kernel, rfl⟩
set_option maxRecDepth 100000 in
theorem ii_hs_mixedInto_2 : sm_D prog_3_method_28_code 2 1 3 (.iconst 0) := ⟨by decide +kernel, rfl⟩
set_option maxRecDepth 100000 in
theorem ii_hs_mixedInto_3 : sm_D prog_3_method_28_code 3 2 5 (.istore 5) := ⟨by decide +kernel, rfl⟩
set_option maxRecDepth 100000 in
theorem ii_hs_mixedInto_5 : sm_D prog_3_method_28_code 5 2 7 (.iload 5) := ⟨by decide +kernel, rfl⟩
set_option maxRecDepth 100000 in
theorem ii_hs_mixedInto_7 : sm_D prog_3_method_28_code 7 1 8 (.aload_n 0) := ⟨by decide +kernel, rfl⟩
set_option maxRecDepth 100000 in
theorem ii_hs_mixedInto_8 : sm_D prog_3_method_28_code 8 3 11 (.getfield 89) := ⟨by decide +kernel, rfl⟩
set_option maxRecDepth 100000 in
theorem ii_hs_mixedInto_11 : sm_D prog_3_method_28_code 11 3 14 (.if_icmp .ge 37) := ⟨by decide +kernel, rfl⟩
set_option maxRecDepth 100000 in
theorem ii_hs_mixedInto_14 : sm_D prog_3_method_28_code 14 3 17 (.ldc2_w 135) := ⟨by decide +kernel, rfl⟩
set_option maxRecDepth 100000 in
theorem ii_hs_mixedInto_17 : sm_D prog_3_method_28_code 17 3 20 (.ldc2_w 135) := ⟨by decide +kernel, rfl⟩
set_option maxRecDepth 100000 in
theorem ii_hs_mixedInto_20 : sm_D prog_3_method_28_code 20 1 21 (.lload_n 3) := ⟨by decide +kernel, rfl⟩
set_option maxRecDepth 100000 in
theorem ii_hs_mixedInto_21 : sm_D prog_3_method_28_code 21 1 22 (.lmul) := ⟨by decide +kernel, rfl⟩
set_option maxRecDepth 100000 in
theorem ii_hs_mixedInto_22 : sm_D prog_3_method_28_code 22 1 23 (.aload_n 0) := ⟨by decide +kernel, rfl⟩
set_option maxRecDepth 100000 in
theorem ii_hs_mixedInto_23 : sm_D prog_3_method_28_code 23 3 26 (.getfield 30) := ⟨by decide +kernel, rfl⟩
set_option maxRecDepth 100000 in
theorem ii_hs_mixedInto_26 : sm_D prog_3_method_28_code 26 2 28 (.iload 5) := ⟨by decide +kernel, rfl⟩
set_option maxRecDepth 100000 in
theorem ii_hs_mixedInto_28 : sm_D prog_3_method_28_code 28 1 29 (.iaload) := ⟨by decide +kernel, rfl⟩
set_option maxRecDepth 100000 in
theorem ii_hs_mixedInto_29 : sm_D prog_3_method_28_code 29 1 30 (.i2l) := ⟨by decide +kernel, rfl⟩
set_option maxRecDepth 100000 in
theorem ii_hs_mixedInto_30 : sm_D prog_3_method_28_code 30 1 31 (.ladd) := ⟨by decide +kernel, rfl⟩
set_option maxRecDepth 100000 in
theorem ii_hs_mixedInto_31 : sm_D prog_3_method_28_code 31 1 32 (.lmul) := ⟨by decide +kernel, rfl⟩
set_option maxRecDepth 100000 in
theorem ii_hs_mixedInto_32 : sm_D prog_3_method_28_code 32 1 33 (.aload_n 0) := ⟨by decide +kernel, rfl⟩
set_option maxRecDepth 100000 in
theorem ii_hs_mixedInto_33 : sm_D prog_3_method_28_code 33 3 36 (.getfield 33) := ⟨by decide +kernel, rfl⟩
set_option maxRecDepth 100000 in
theorem ii_hs_mixedInto_36 : sm_D prog_3_method_28_code 36 2 38 (.iload 5) := ⟨by decide +kernel, rfl⟩
set_option maxRecDepth 100000 in
theorem ii_hs_mixedInto_38 : sm_D prog_3_method_28_code 38 1 39 (.iaload) := ⟨by decide +kernel, rfl⟩
set_option maxRecDepth 100000 in
theorem ii_hs_mixedInto_39 : sm_D prog_3_method_28_code 39 1 40 (.i2l) := ⟨by decide +kernel, rfl⟩
set_option maxRecDepth 100000 in
theorem ii_hs_mixedInto_40 : sm_D prog_3_method_28_code 40 1 41 (.ladd) := ⟨by decide +kernel, rfl⟩
set_option maxRecDepth 100000 in
theorem ii_hs_mixedInto_41 : sm_D prog_3_method_28_code 41 1 42 (.lstore_n 3) := ⟨by decide +kernel, rfl⟩
set_option maxRecDepth 100000 in
theorem ii_hs_mixedInto_42 : sm_D prog_3_method_28_code 42 3 45 (.iinc 5 1) := ⟨by decide +kernel, rfl⟩
set_option maxRecDepth 100000 in
theorem ii_hs_mixedInto_45 : sm_D prog_3_method_28_code 45 3 48 (.goto (-40)) := ⟨by decide +kernel, rfl⟩
set_option maxRecDepth 100000 in
theorem ii_hs_mixedInto_48 : sm_D prog_3_method_28_code 48 1 49 (.iconst 0) := ⟨by decide +kernel, rfl⟩
set_option maxRecDepth 100000 in
theorem ii_hs_mixedInto_49 : sm_D prog_3_method_28_code 49 2 51 (.istore 5) := ⟨by decide +kernel, rfl⟩
set_option maxRecDepth 100000 in
theorem ii_hs_mixedInto_51 : sm_D prog_3_method_28_code 51 2 53 (.iload 5) := ⟨by decide +kernel, rfl⟩
set_option maxRecDepth 100000 in
theorem ii_hs_mixedInto_53 : sm_D prog_3_method_28_code 53 1 54 (.aload_n 0) := ⟨by decide +kernel, rfl⟩
set_option maxRecDepth 100000 in
theorem ii_hs_mixedInto_54 : sm_D prog_3_method_28_code 54 3 57 (.getfield 45) := ⟨by decide +kernel, rfl⟩
set_option maxRecDepth 100000 in
theorem ii_hs_mixedInto_57 : sm_D prog_3_method_28_code 57 3 60 (.if_icmp .ge 41) := ⟨by decide +kernel, rfl⟩
set_option maxRecDepth 100000 in
theorem ii_hs_mixedInto_60 : sm_D prog_3_method_28_code 60 1 61 (.iconst 0) := ⟨by decide +kernel, rfl⟩
set_option maxRecDepth 100000 in
theorem ii_hs_mixedInto_61 : sm_D prog_3_method_28_code 61 2 63 (.istore 6) := ⟨by decide +kernel, rfl⟩
set_option maxRecDepth 100000 in
theorem ii_hs_mixedInto_63 : sm_D prog_3_method_28_code 63 2 65 (.iload 6) := ⟨by decide +kernel, rfl⟩
set_option maxRecDepth 100000 in
theorem ii_hs_mixedInto_65 : sm_D prog_3_method_28_code 65 2 67 (.bipush 6) := ⟨by decide +kernel, rfl⟩
set_option maxRecDepth 100000 in
theorem ii_hs_mixedInto_67 : sm_D prog_3_method_28_code 67 3 70 (.if_icmp .ge 25) := ⟨by decide +kernel, rfl⟩
set_option maxRecDepth 100000 in
theorem ii_hs_mixedInto_70 : sm_D prog_3_method_28_code 70 3 73 (.ldc2_w 135) := ⟨by decide +kernel, rfl⟩
set_option maxRecDepth 100000 in
theorem ii_hs_mixedInto_73 : sm_D prog_3_method_28_code 73 1 74 (.lload_n 3) := ⟨by decide +kernel, rfl⟩
set_option maxRecDepth 100000 in
theorem ii_hs_mixedInto_74 : sm_D prog_3_method_28_code 74 1 75 (.lmul) := ⟨by decide +kernel, rfl⟩
set_option maxRecDepth 100000 in
theorem ii_hs_mixedInto_75 : sm_D prog_3_method_28_code 75 1 76 (.aload_n 0) := ⟨by decide +kernel, rfl⟩
set_option maxRecDepth 100000 in
theorem ii_hs_mixedInto_76 : sm_D prog_3_method_28_code 76 2 78 (.iload 5) := ⟨by decide +kernel, rfl⟩
set_option maxRecDepth 100000 in
theorem ii_hs_mixedInto_78 : sm_D prog_3_method_28_code 78 2 80 (.iload 6) := ⟨by decide +kernel, rfl⟩
set_option maxRecDepth 100000 in
theorem ii_hs_mixedInto_80 : sm_D prog_3_method_28_code 80 3 83 (.invokevirtual 137) := ⟨by decide +kernel, rfl⟩
set_option maxRecDepth 100000 in
theorem ii_hs_mixedInto_83 : sm_D prog_3_method_28_code 83 1 84 (.i2l) := ⟨by decide +kernel, rfl⟩
set_option maxRecDepth 100000 in
theorem ii_hs_mixedInto_84 : sm_D prog_3_method_28_code 84 1 85 (.ladd) := ⟨by decide +kernel, rfl⟩
set_option maxRecDepth 100000 in
theorem ii_hs_mixedInto_85 : sm_D prog_3_method_28_code 85 1 86 (.lstore_n 3) := ⟨by decide +kernel, rfl⟩
set_option maxRecDepth 100000 in
theorem ii_hs_mixedInto_86 : sm_D prog_3_method_28_code 86 3 89 (.iinc 6 1) := ⟨by decide +kernel, rfl⟩
set_option maxRecDepth 100000 in
theorem ii_hs_mixedInto_89 : sm_D prog_3_method_28_code 89 3 92 (.goto (-26)) := ⟨by decide +kernel, rfl⟩
set_option maxRecDepth 100000 in
theorem ii_hs_mixedInto_92 : sm_D prog_3_method_28_code 92 3 95 (.iinc 5 1) := ⟨by decide +kernel, rfl⟩
set_option maxRecDepth 100000 in
theorem ii_hs_mixedInto_95 : sm_D prog_3_method_28_code 95 3 98 (.goto (-44)) := ⟨by decide +kernel, rfl⟩
set_option maxRecDepth 100000 in
theorem ii_hs_mixedInto_98 : sm_D prog_3_method_28_code 98 1 99 (.lload_n 3) := ⟨by decide +kernel, rfl⟩
set_option maxRecDepth 100000 in
theorem ii_hs_mixedInto_99 : sm_D prog_3_method_28_code 99 1 100 (.lreturn) := ⟨by decide +kernel, rfl⟩
noncomputable def ff_hs_mixedInto_63_b (self51 : Int64 → Int32 → sm_Mem → sm_R) (self63 : Int64 → Int32 → Int32 → sm_Mem → sm_R) (a3 : Int64) (a5 : Int32) (a6 : Int32) (w : sm_Mem) : sm_R := (if (6 : Int32) ≤ a6 then self51 (a3) ((a5 + (1 : Int32))) w else (sm_cI (ff_hs_factOf (a5) (a6) w) fun x1 w2 => self63 ((((31 : Int64) * a3) + (Int32.toInt64 x1))) (a5) ((a6 + (1 : Int32))) w2))
noncomputable def ff_hs_mixedInto_63_f (self51 : Int64 → Int32 → sm_Mem → sm_R) : Nat → Int64 → Int32 → Int32 → sm_Mem → sm_R
  | 0, _, _, _, _ => none
  | n + 1, a3, a5, a6, w => ff_hs_mixedInto_63_b self51 (ff_hs_mixedInto_63_f self51 n) a3 a5 a6 w
noncomputable def ff_hs_mixedInto_63 (self51 : Int64 → Int32 → sm_Mem → sm_R) (a3 : Int64) (a5 : Int32) (a6 : Int32) (w : sm_Mem) : sm_R := ff_hs_mixedInto_63_f self51 sm_N a3 a5 a6 w
set_option maxHeartbeats 4000000 in
set_option maxRecDepth 100000 in
theorem ss_hs_mixedInto_63_b {E : Nat × (Nat → Int32)} (self51 : Int64 → Int32 → sm_Mem → sm_R) (hself51 : ∀ (a3 : Int64) (a5 : Int32) (w : sm_Mem), sm_Sim E (mi_hs_mixedInto) 51 [some (.ref 36), none, none, some (.long a3), none, some (.int a5), none] [] w (self51 a3 a5 w)) (self63 : Int64 → Int32 → Int32 → sm_Mem → sm_R) (hself63 : ∀ (a3 : Int64) (a5 : Int32) (a6 : Int32) (w : sm_Mem), sm_Sim E (mi_hs_mixedInto) 63 [some (.ref 36), none, none, some (.long a3), none, some (.int a5), some (.int a6)] [] w (self63 a3 a5 a6 w)) (a3 : Int64) (a5 : Int32) (a6 : Int32) (w : sm_Mem) : sm_Sim E (mi_hs_mixedInto) 63 [some (.ref 36), none, none, some (.long a3), none, some (.int a5), some (.int a6)] [] w (ff_hs_mixedInto_63_b self51 self63 a3 a5 a6 w) := by
  unfold ff_hs_mixedInto_63_b
  refine sm_iload ii_hs_mixedInto_63 rfl ?_
  refine sm_bipush (6 : Int32) ii_hs_mixedInto_65 (by decide) ?_
  refine sm_icmp_ge 92 ii_hs_mixedInto_67 (by decide) ?_ ?_
  · refine sm_iinc (a5 + (1 : Int32)) [some (.ref 36), none, none, some (.long a3), none, some (.int (a5 + (1 : Int32))), some (.int a6)] ii_hs_mixedInto_92 rfl rfl rfl rfl ?_
    refine sm_goto 51 ii_hs_mixedInto_95 (by decide) ?_
    refine sm_msk [true, false, false, true, false, true, false] [some (.ref 36), none, none, some (.long a3), none, some (.int (a5 + (1 : Int32))), none] rfl ?_
    exact hself51 (a3) ((a5 + (1 : Int32))) w
  · refine sm_ldc2 (31 : Int64) ii_hs_mixedInto_70 (List.mem_of_getElem? (i := 794) (by decide +kernel)) ?_
    refine sm_lload_n ii_hs_mixedInto_73 rfl ?_
    refine sm_lmul ii_hs_mixedInto_74 ?_
    refine sm_aload_n ii_hs_mixedInto_75 rfl ?_
    refine sm_iload ii_hs_mixedInto_76 rfl ?_
    refine sm_iload ii_hs_mixedInto_78 rfl ?_
    refine sm_cvI [.int a5, .int a6] [.long ((31 : Int64) * a3)] rfl ii_hs_mixedInto_80 ml_hs_137 (mf_hs_factOf) (mv_hs_factOf) (Nat.le_of_ble_eq_true rfl) rfl 1 rfl rfl rfl rfl (mc_hs_factOf (a5) (a6) w) (fun x1 w2 => ?_)
    refine sm_i2l ii_hs_mixedInto_83 ?_
    refine sm_ladd ii_hs_mixedInto_84 ?_
    refine sm_lstore_n [some (.ref 36), none, none, some (.long (((31 : Int64) * a3) + (Int32.toInt64 x1))), none, some (.int a5), some (.int a6)] ii_hs_mixedInto_85 rfl rfl ?_
    refine sm_iinc (a6 + (1 : Int32)) [some (.ref 36), none, none, some (.long (((31 : Int64) * a3) + (Int32.toInt64 x1))), none, some (.int a5), some (.int (a6 + (1 : Int32)))] ii_hs_mixedInto_86 rfl rfl rfl rfl ?_
    refine sm_goto 63 ii_hs_mixedInto_89 (by decide) ?_
    exact hself63 ((((31 : Int64) * a3) + (Int32.toInt64 x1))) (a5) ((a6 + (1 : Int32))) w2
set_option maxHeartbeats 4000000 in
set_option maxRecDepth 100000 in
theorem ss_hs_mixedInto_63_f {E : Nat × (Nat → Int32)} (self51 : Int64 → Int32 → sm_Mem → sm_R) (hself51 : ∀ (a3 : Int64) (a5 : Int32) (w : sm_Mem), sm_Sim E (mi_hs_mixedInto) 51 [some (.ref 36), none, none, some (.long a3), none, some (.int a5), none] [] w (self51 a3 a5 w)) : ∀ (n : Nat) (a3 : Int64) (a5 : Int32) (a6 : Int32) (w : sm_Mem), sm_Sim E (mi_hs_mixedInto) 63 [some (.ref 36), none, none, some (.long a3), none, some (.int a5), some (.int a6)] [] w (ff_hs_mixedInto_63_f self51 n a3 a5 a6 w)
  | 0, _, _, _, _ => fun _ _ h => by cases h
  | n + 1, a3, a5, a6, w => ss_hs_mixedInto_63_b self51 hself51 _ (ss_hs_mixedInto_63_f self51 hself51 n) a3 a5 a6 w
set_option maxHeartbeats 4000000 in
set_option maxRecDepth 100000 in
theorem ss_hs_mixedInto_63 {E : Nat × (Nat → Int32)} (self51 : Int64 → Int32 → sm_Mem → sm_R) (hself51 : ∀ (a3 : Int64) (a5 : Int32) (w : sm_Mem), sm_Sim E (mi_hs_mixedInto) 51 [some (.ref 36), none, none, some (.long a3), none, some (.int a5), none] [] w (self51 a3 a5 w)) (a3 : Int64) (a5 : Int32) (a6 : Int32) (w : sm_Mem) : sm_Sim E (mi_hs_mixedInto) 63 [some (.ref 36), none, none, some (.long a3), none, some (.int a5), some (.int a6)] [] w (ff_hs_mixedInto_63 self51 a3 a5 a6 w) := ss_hs_mixedInto_63_f self51 hself51 sm_N a3 a5 a6 w
noncomputable def ff_hs_mixedInto_51_b  (self51 : Int64 → Int32 → sm_Mem → sm_R) (a3 : Int64) (a5 : Int32) (w : sm_Mem) : sm_R := (if (w.1 36 0) ≤ a5 then (some (.long a3, w)) else ff_hs_mixedInto_63 self51 (a3) (a5) ((0 : Int32)) w)
noncomputable def ff_hs_mixedInto_51_f  : Nat → Int64 → Int32 → sm_Mem → sm_R
  | 0, _, _, _ => none
  | n + 1, a3, a5, w => ff_hs_mixedInto_51_b  (ff_hs_mixedInto_51_f  n) a3 a5 w
noncomputable def ff_hs_mixedInto_51  (a3 : Int64) (a5 : Int32) (w : sm_Mem) : sm_R := ff_hs_mixedInto_51_f  sm_N a3 a5 w
set_option maxHeartbeats 4000000 in
set_option maxRecDepth 100000 in
theorem ss_hs_mixedInto_51_b {E : Nat × (Nat → Int32)}  (self51 : Int64 → Int32 → sm_Mem → sm_R) (hself51 : ∀ (a3 : Int64) (a5 : Int32) (w : sm_Mem), sm_Sim E (mi_hs_mixedInto) 51 [some (.ref 36), none, none, some (.long a3), none, some (.int a5), none] [] w (self51 a3 a5 w)) (a3 : Int64) (a5 : Int32) (w : sm_Mem) : sm_Sim E (mi_hs_mixedInto) 51 [some (.ref 36), none, none, some (.long a3), none, some (.int a5), none] [] w (ff_hs_mixedInto_51_b  self51 a3 a5 w) := by
  unfold ff_hs_mixedInto_51_b
  refine sm_iload ii_hs_mixedInto_51 rfl ?_
  refine sm_aload_n ii_hs_mixedInto_53 rfl ?_
  refine sm_getI ii_hs_mixedInto_54 fl_hs_45 (k := 36) rfl ?_
  refine sm_icmp_ge 98 ii_hs_mixedInto_57 (by decide) ?_ ?_
  · refine sm_lload_n ii_hs_mixedInto_98 rfl ?_
    exact sm_lret ii_hs_mixedInto_99 rfl
  · refine sm_iconst (0 : Int32) ii_hs_mixedInto_60 (by decide) ?_
    refine sm_istore [some (.ref 36), none, none, some (.long a3), none, some (.int a5), some (.int (0 : Int32))] ii_hs_mixedInto_61 rfl rfl ?_
    exact ss_hs_mixedInto_63 self51 hself51 (a3) (a5) ((0 : Int32)) w
set_option maxHeartbeats 4000000 in
set_option maxRecDepth 100000 in
theorem ss_hs_mixedInto_51_f {E : Nat × (Nat → Int32)}  : ∀ (n : Nat) (a3 : Int64) (a5 : Int32) (w : sm_Mem), sm_Sim E (mi_hs_mixedInto) 51 [some (.ref 36), none, none, some (.long a3), none, some (.int a5), none] [] w (ff_hs_mixedInto_51_f  n a3 a5 w)
  | 0, _, _, _ => fun _ _ h => by cases h
  | n + 1, a3, a5, w => ss_hs_mixedInto_51_b  _ (ss_hs_mixedInto_51_f  n) a3 a5 w
set_option maxHeartbeats 4000000 in
set_option maxRecDepth 100000 in
theorem ss_hs_mixedInto_51 {E : Nat × (Nat → Int32)}  (a3 : Int64) (a5 : Int32) (w : sm_Mem) : sm_Sim E (mi_hs_mixedInto) 51 [some (.ref 36), none, none, some (.long a3), none, some (.int a5), none] [] w (ff_hs_mixedInto_51  a3 a5 w) := ss_hs_mixedInto_51_f  sm_N a3 a5 w
noncomputable def ff_hs_mixedInto_5_b  (self5 : Int64 → Int32 → sm_Mem → sm_R) (a3 : Int64) (a5 : Int32) (w : sm_Mem) : sm_R := (if (w.1 36 11) ≤ a5 then ff_hs_mixedInto_51 (a3) ((0 : Int32)) w else (Option.bind (sm_rd w 43 8 a5) fun x3 => (Option.bind (sm_rd w 44 8 a5) fun x4 => self5 ((((31 : Int64) * (((31 : Int64) * a3) + (Int32.toInt64 x3))) + (Int32.toInt64 x4))) ((a5 + (1 : Int32))) w)))
noncomputable def ff_hs_mixedInto_5_f  : Nat → Int64 → Int32 → sm_Mem → sm_R
  | 0, _, _, _ => none
  | n + 1, a3, a5, w => ff_hs_mixedInto_5_b  (ff_hs_mixedInto_5_f  n) a3 a5 w
noncomputable def ff_hs_mixedInto_5  (a3 : Int64) (a5 : Int32) (w : sm_Mem) : sm_R := ff_hs_mixedInto_5_f  sm_N a3 a5 w
set_option maxHeartbeats 4000000 in
set_option maxRecDepth 100000 in
theorem ss_hs_mixedInto_5_b {E : Nat × (Nat → Int32)}  (self5 : Int64 → Int32 → sm_Mem → sm_R) (hself5 : ∀ (a3 : Int64) (a5 : Int32) (w : sm_Mem), sm_Sim E (mi_hs_mixedInto) 5 [some (.ref 36), none, none, some (.long a3), none, some (.int a5), none] [] w (self5 a3 a5 w)) (a3 : Int64) (a5 : Int32) (w : sm_Mem) : sm_Sim E (mi_hs_mixedInto) 5 [some (.ref 36), none, none, some (.long a3), none, some (.int a5), none] [] w (ff_hs_mixedInto_5_b  self5 a3 a5 w) := by
  unfold ff_hs_mixedInto_5_b
  refine sm_iload ii_hs_mixedInto_5 rfl ?_
  refine sm_aload_n ii_hs_mixedInto_7 rfl ?_
  refine sm_getI ii_hs_mixedInto_8 fl_hs_89 (k := 36) rfl ?_
  refine sm_icmp_ge 48 ii_hs_mixedInto_11 (by decide) ?_ ?_
  · refine sm_iconst (0 : Int32) ii_hs_mixedInto_48 (by decide) ?_
    refine sm_istore [some (.ref 36), none, none, some (.long a3), none, some (.int (0 : Int32)), none] ii_hs_mixedInto_49 rfl rfl ?_
    exact ss_hs_mixedInto_51 (a3) ((0 : Int32)) w
  · refine sm_ldc2 (31 : Int64) ii_hs_mixedInto_14 (List.mem_of_getElem? (i := 794) (by decide +kernel)) ?_
    refine sm_ldc2 (31 : Int64) ii_hs_mixedInto_17 (List.mem_of_getElem? (i := 794) (by decide +kernel)) ?_
    refine sm_lload_n ii_hs_mixedInto_20 rfl ?_
    refine sm_lmul ii_hs_mixedInto_21 ?_
    refine sm_aload_n ii_hs_mixedInto_22 rfl ?_
    refine sm_getR 43 ii_hs_mixedInto_23 fl_hs_30 (k := 36) rfl ?_
    refine sm_iload ii_hs_mixedInto_26 rfl ?_
    refine sm_iald ii_hs_mixedInto_28 (k := 43) rfl (fun x3 => ?_)
    refine sm_i2l ii_hs_mixedInto_29 ?_
    refine sm_ladd ii_hs_mixedInto_30 ?_
    refine sm_lmul ii_hs_mixedInto_31 ?_
    refine sm_aload_n ii_hs_mixedInto_32 rfl ?_
    refine sm_getR 44 ii_hs_mixedInto_33 fl_hs_33 (k := 36) rfl ?_
    refine sm_iload ii_hs_mixedInto_36 rfl ?_
    refine sm_iald ii_hs_mixedInto_38 (k := 44) rfl (fun x4 => ?_)
    refine sm_i2l ii_hs_mixedInto_39 ?_
    refine sm_ladd ii_hs_mixedInto_40 ?_
    refine sm_lstore_n [some (.ref 36), none, none, some (.long (((31 : Int64) * (((31 : Int64) * a3) + (Int32.toInt64 x3))) + (Int32.toInt64 x4))), none, some (.int a5), none] ii_hs_mixedInto_41 rfl rfl ?_
    refine sm_iinc (a5 + (1 : Int32)) [some (.ref 36), none, none, some (.long (((31 : Int64) * (((31 : Int64) * a3) + (Int32.toInt64 x3))) + (Int32.toInt64 x4))), none, some (.int (a5 + (1 : Int32))), none] ii_hs_mixedInto_42 rfl rfl rfl rfl ?_
    refine sm_goto 5 ii_hs_mixedInto_45 (by decide) ?_
    exact hself5 ((((31 : Int64) * (((31 : Int64) * a3) + (Int32.toInt64 x3))) + (Int32.toInt64 x4))) ((a5 + (1 : Int32))) w
set_option maxHeartbeats 4000000 in
set_option maxRecDepth 100000 in
theorem ss_hs_mixedInto_5_f {E : Nat × (Nat → Int32)}  : ∀ (n : Nat) (a3 : Int64) (a5 : Int32) (w : sm_Mem), sm_Sim E (mi_hs_mixedInto) 5 [some (.ref 36), none, none, some (.long a3), none, some (.int a5), none] [] w (ff_hs_mixedInto_5_f  n a3 a5 w)
  | 0, _, _, _ => fun _ _ h => by cases h
  | n + 1, a3, a5, w => ss_hs_mixedInto_5_b  _ (ss_hs_mixedInto_5_f  n) a3 a5 w
set_option maxHeartbeats 4000000 in
set_option maxRecDepth 100000 in
theorem ss_hs_mixedInto_5 {E : Nat × (Nat → Int32)}  (a3 : Int64) (a5 : Int32) (w : sm_Mem) : sm_Sim E (mi_hs_mixedInto) 5 [some (.ref 36), none, none, some (.long a3), none, some (.int a5), none] [] w (ff_hs_mixedInto_5  a3 a5 w) := ss_hs_mixedInto_5_f  sm_N a3 a5 w
noncomputable def ff_hs_mixedInto  (a1 : Int64) (w : sm_Mem) : sm_R := ff_hs_mixedInto_5 (a1) ((0 : Int32)) w
set_option maxHeartbeats 4000000 in
set_option maxRecDepth 100000 in
theorem ss_hs_mixedInto_0 {E : Nat × (Nat → Int32)}  (a1 : Int64) (w : sm_Mem) : sm_Sim E (mi_hs_mixedInto) 0 [some (.ref 36), some (.long a1), none, none, none, none, none] [] w (ff_hs_mixedInto  a1 w) := by
  unfold ff_hs_mixedInto
  refine sm_lload_n ii_hs_mixedInto_0 rfl ?_
  refine sm_lstore_n [some (.ref 36), some (.long a1), none, some (.long a1), none, none, none] ii_hs_mixedInto_1 rfl rfl ?_
  refine sm_iconst (0 : Int32) ii_hs_mixedInto_2 (by decide) ?_
  refine sm_istore [some (.ref 36), some (.long a1), none, some (.long a1), none, some (.int (0 : Int32)), none] ii_hs_mixedInto_3 rfl rfl ?_
  refine sm_msk [true, false, false, true, false, true, false] [some (.ref 36), none, none, some (.long a1), none, some (.int (0 : Int32)), none] rfl ?_
  exact ss_hs_mixedInto_5 (a1) ((0 : Int32)) w
set_option maxHeartbeats 4000000 in
set_option maxRecDepth 100000 in
theorem mc_hs_mixedInto {E : Nat × (Nat → Int32)} (a1 : Int64) (w : sm_Mem) : sm_MC E mi_hs_mixedInto [.ref 36, .long a1] w (ff_hs_mixedInto a1 w) := sm_MC_of E (by decide +kernel) rfl (Nat.le_of_ble_eq_true rfl) (ss_hs_mixedInto_0 a1 w)
abbrev mi_rw_mixedInto : sm_MI := (⟨"HerOrders$Row", "mixedInto", "(J)J"⟩, prog_4_method_10_code, 6, (some .long), 2)
set_option maxRecDepth 100000 in
theorem mf_rw_mixedInto : sm_MF mi_rw_mixedInto 1 := ⟨List.mem_of_getElem? (i := 806) (by decide +kernel), List.mem_of_getElem? (i := 70) (by decide +kernel), ⟨by decide, by decide⟩, by decide +kernel⟩
set_option maxRecDepth 100000 in
theorem mv_rw_mixedInto : sm_MFV mi_rw_mixedInto := ⟨List.mem_of_getElem? (i := 805) (by decide +kernel), List.mem_of_getElem? (i := 67) (by decide +kernel)⟩
set_option maxRecDepth 100000 in
theorem ii_rw_mixedInto_0 : sm_D prog_4_method_10_code 0 1 1 (.aload_n 0) := ⟨by decide +kernel, rfl⟩
set_option maxRecDepth 100000 in
theorem ii_rw_mixedInto_1 : sm_D prog_4_method_10_code 1 3 4 (.invokevirtual 36) := ⟨by decide +kernel, rfl⟩
set_option maxRecDepth 100000 in
theorem ii_rw_mixedInto_4 : sm_D prog_4_method_10_code 4 3 7 (.ifCond .eq 11) := ⟨by decide +kernel, rfl⟩
set_option maxRecDepth 100000 in
theorem ii_rw_mixedInto_7 : sm_D prog_4_method_10_code 7 3 10 (.ldc2_w 40) := ⟨by decide +kernel, rfl⟩
set_option maxRecDepth 100000 in
theorem ii_rw_mixedInto_10 : sm_D prog_4_method_10_code 10 1 11 (.lload_n 1) := ⟨by decide +kernel, rfl⟩
set_option maxRecDepth 100000 in
theorem ii_rw_mixedInto_11 : sm_D prog_4_method_10_code 11 1 12 (.lmul) := ⟨by decide +kernel, rfl⟩
set_option maxRecDepth 100000 in
theorem ii_rw_mixedInto_12 : sm_D prog_4_method_10_code 12 1 13 (.lconst 1) := ⟨by decide +kernel, rfl⟩
set_option maxRecDepth 100000 in
theorem ii_rw_mixedInto_13 : sm_D prog_4_method_10_code 13 1 14 (.lsub) := ⟨by decide +kernel, rfl⟩
set_option maxRecDepth 100000 in
theorem ii_rw_mixedInto_14 : sm_D prog_4_method_10_code 14 1 15 (.lreturn) := ⟨by decide +kernel, rfl⟩
set_option maxRecDepth 100000 in
theorem ii_rw_mixedInto_15 : sm_D prog_4_method_10_code 15 3 18 (.ldc2_w 40) := ⟨by decide +kernel, rfl⟩
set_option maxRecDepth 100000 in
theorem ii_rw_mixedInto_18 : sm_D prog_4_method_10_code 18 1 19 (.lload_n 1) := ⟨by decide +kernel, rfl⟩
set_option maxRecDepth 100000 in
theorem ii_rw_mixedInto_19 : sm_D prog_4_method_10_code 19 1 20 (.lmul) := ⟨by decide +kernel, rfl⟩
set_option maxRecDepth 100000 in
theorem ii_rw_mixedInto_20 : sm_D prog_4_method_10_code 20 1 21 (.aload_n 0) := ⟨by decide +kernel, rfl⟩
set_option maxRecDepth 100000 in
theorem ii_rw_mixedInto_21 : sm_D prog_4_method_10_code 21 3 24 (.getfield 21) := ⟨by decide +kernel, rfl⟩
set_option maxRecDepth 100000 in
theorem ii_rw_mixedInto_24 : sm_D prog_4_method_10_code 24 1 25 (.i2l) := ⟨by decide +kernel, rfl⟩
set_option maxRecDepth 100000 in
theorem ii_rw_mixedInto_25 : sm_D prog_4_method_10_code 25 1 26 (.ladd) := ⟨by decide +kernel, rfl⟩
set_option maxRecDepth 100000 in
theorem ii_rw_mixedInto_26 : sm_D prog_4_method_10_code 26 1 27 (.lstore_n 3) := ⟨by decide +kernel, rfl⟩
set_option maxRecDepth 100000 in
theorem ii_rw_mixedInto_27 : sm_D prog_4_method_10_code 27 1 28 (.iconst 0) := ⟨by decide +kernel, rfl⟩
set_option maxRecDepth 100000 in
theorem ii_rw_mixedInto_28 : sm_D prog_4_method_10_code 28 2 30 (.istore 5) := ⟨by decide +kernel, rfl⟩
set_option maxRecDepth 100000 in
theorem ii_rw_mixedInto_30 : sm_D prog_4_method_10_code 30 2 32 (.iload 5) := ⟨by decide +kernel, rfl⟩
set_option maxRecDepth 100000 in
theorem ii_rw_mixedInto_32 : sm_D prog_4_method_10_code 32 1 33 (.aload_n 0) := ⟨by decide +kernel, rfl⟩
set_option maxRecDepth 100000 in
theorem ii_rw_mixedInto_33 : sm_D prog_4_method_10_code 33 3 36 (.getfield 21) := ⟨by decide +kernel, rfl⟩
set_option maxRecDepth 100000 in
theorem ii_rw_mixedInto_36 : sm_D prog_4_method_10_code 36 3 39 (.if_icmp .ge 24) := ⟨by decide +kernel, rfl⟩
set_option maxRecDepth 100000 in
theorem ii_rw_mixedInto_39 : sm_D prog_4_method_10_code 39 3 42 (.ldc2_w 40) := ⟨by decide +kernel, rfl⟩
set_option maxRecDepth 100000 in
theorem ii_rw_mixedInto_42 : sm_D prog_4_method_10_code 42 1 43 (.lload_n 3) := ⟨by decide +kernel, rfl⟩
set_option maxRecDepth 100000 in
theorem ii_rw_mixedInto_43 : sm_D prog_4_method_10_code 43 1 44 (.lmul) := ⟨by decide +kernel, rfl⟩
set_option maxRecDepth 100000 in
theorem ii_rw_mixedInto_44 : sm_D prog_4_method_10_code 44 1 45 (.aload_n 0) := ⟨by decide +kernel, rfl⟩
set_option maxRecDepth 100000 in
theorem ii_rw_mixedInto_45 : sm_D prog_4_method_10_code 45 3 48 (.getfield 15) := ⟨by decide +kernel, rfl⟩
set_option maxRecDepth 100000 in
theorem ii_rw_mixedInto_48 : sm_D prog_4_method_10_code 48 2 50 (.iload 5) := ⟨by decide +kernel, rfl⟩
set_option maxRecDepth 100000 in
theorem ii_rw_mixedInto_50 : sm_D prog_4_method_10_code 50 1 51 (.iaload) := ⟨by decide +kernel, rfl⟩
set_option maxRecDepth 100000 in
theorem ii_rw_mixedInto_51 : sm_D prog_4_method_10_code 51 1 52 (.i2l) := ⟨by decide +kernel, rfl⟩
set_option maxRecDepth 100000 in
theorem ii_rw_mixedInto_52 : sm_D prog_4_method_10_code 52 1 53 (.ladd) := ⟨by decide +kernel, rfl⟩
set_option maxRecDepth 100000 in
theorem ii_rw_mixedInto_53 : sm_D prog_4_method_10_code 53 1 54 (.lstore_n 3) := ⟨by decide +kernel, rfl⟩
set_option maxRecDepth 100000 in
theorem ii_rw_mixedInto_54 : sm_D prog_4_method_10_code 54 3 57 (.iinc 5 1) := ⟨by decide +kernel, rfl⟩
set_option maxRecDepth 100000 in
theorem ii_rw_mixedInto_57 : sm_D prog_4_method_10_code 57 3 60 (.goto (-27)) := ⟨by decide +kernel, rfl⟩
set_option maxRecDepth 100000 in
theorem ii_rw_mixedInto_60 : sm_D prog_4_method_10_code 60 1 61 (.lload_n 3) := ⟨by decide +kernel, rfl⟩
set_option maxRecDepth 100000 in
theorem ii_rw_mixedInto_61 : sm_D prog_4_method_10_code 61 1 62 (.lreturn) := ⟨by decide +kernel, rfl⟩
noncomputable def ff_rw_mixedInto_30_b  (self30 : Nat → Int64 → Int32 → sm_Mem → sm_R) (a0 : Nat) (a3 : Int64) (a5 : Int32) (w : sm_Mem) : sm_R := (Option.bind (sm_gI w a0 2 1) fun x1 => (if x1 ≤ a5 then (some (.long a3, w)) else (Option.bind (sm_fk a0 2 0 2) fun r2 => (Option.bind (sm_rds w r2 a5) fun x3 => self30 (a0) ((((31 : Int64) * a3) + (Int32.toInt64 x3))) ((a5 + (1 : Int32))) w))))
noncomputable def ff_rw_mixedInto_30_f  : Nat → Nat → Int64 → Int32 → sm_Mem → sm_R
  | 0, _, _, _, _ => none
  | n + 1, a0, a3, a5, w => ff_rw_mixedInto_30_b  (ff_rw_mixedInto_30_f  n) a0 a3 a5 w
noncomputable def ff_rw_mixedInto_30  (a0 : Nat) (a3 : Int64) (a5 : Int32) (w : sm_Mem) : sm_R := ff_rw_mixedInto_30_f  sm_N a0 a3 a5 w
set_option maxHeartbeats 4000000 in
set_option maxRecDepth 100000 in
theorem ss_rw_mixedInto_30_b {E : Nat × (Nat → Int32)}  (self30 : Nat → Int64 → Int32 → sm_Mem → sm_R) (hself30 : ∀ (a0 : Nat) (a3 : Int64) (a5 : Int32) (w : sm_Mem), sm_Sim E (mi_rw_mixedInto) 30 [some (.ref a0), none, none, some (.long a3), none, some (.int a5)] [] w (self30 a0 a3 a5 w)) (a0 : Nat) (a3 : Int64) (a5 : Int32) (w : sm_Mem) : sm_Sim E (mi_rw_mixedInto) 30 [some (.ref a0), none, none, some (.long a3), none, some (.int a5)] [] w (ff_rw_mixedInto_30_b  self30 a0 a3 a5 w) := by
  unfold ff_rw_mixedInto_30_b
  refine sm_iload ii_rw_mixedInto_30 rfl ?_
  refine sm_aload_n ii_rw_mixedInto_32 rfl ?_
  refine sm_getIs ii_rw_mixedInto_33 fl_rw_21 (fun x1 => ?_)
  refine sm_icmp_ge 60 ii_rw_mixedInto_36 (by decide) ?_ ?_
  · refine sm_lload_n ii_rw_mixedInto_60 rfl ?_
    exact sm_lret ii_rw_mixedInto_61 rfl
  · refine sm_ldc2 (31 : Int64) ii_rw_mixedInto_39 (List.mem_of_getElem? (i := 808) (by decide +kernel)) ?_
    refine sm_lload_n ii_rw_mixedInto_42 rfl ?_
    refine sm_lmul ii_rw_mixedInto_43 ?_
    refine sm_aload_n ii_rw_mixedInto_44 rfl ?_
    refine sm_getRs ii_rw_mixedInto_45 fl_rw_15 (fun r2 => ?_)
    refine sm_iload ii_rw_mixedInto_48 rfl ?_
    refine sm_ialds ii_rw_mixedInto_50 (fun x3 => ?_)
    refine sm_i2l ii_rw_mixedInto_51 ?_
    refine sm_ladd ii_rw_mixedInto_52 ?_
    refine sm_lstore_n [some (.ref a0), none, none, some (.long (((31 : Int64) * a3) + (Int32.toInt64 x3))), none, some (.int a5)] ii_rw_mixedInto_53 rfl rfl ?_
    refine sm_iinc (a5 + (1 : Int32)) [some (.ref a0), none, none, some (.long (((31 : Int64) * a3) + (Int32.toInt64 x3))), none, some (.int (a5 + (1 : Int32)))] ii_rw_mixedInto_54 rfl rfl rfl rfl ?_
    refine sm_goto 30 ii_rw_mixedInto_57 (by decide) ?_
    exact hself30 (a0) ((((31 : Int64) * a3) + (Int32.toInt64 x3))) ((a5 + (1 : Int32))) w
set_option maxHeartbeats 4000000 in
set_option maxRecDepth 100000 in
theorem ss_rw_mixedInto_30_f {E : Nat × (Nat → Int32)}  : ∀ (n : Nat) (a0 : Nat) (a3 : Int64) (a5 : Int32) (w : sm_Mem), sm_Sim E (mi_rw_mixedInto) 30 [some (.ref a0), none, none, some (.long a3), none, some (.int a5)] [] w (ff_rw_mixedInto_30_f  n a0 a3 a5 w)
  | 0, _, _, _, _ => fun _ _ h => by cases h
  | n + 1, a0, a3, a5, w => ss_rw_mixedInto_30_b  _ (ss_rw_mixedInto_30_f  n) a0 a3 a5 w
set_option maxHeartbeats 4000000 in
set_option maxRecDepth 100000 in
theorem ss_rw_mixedInto_30 {E : Nat × (Nat → Int32)}  (a0 : Nat) (a3 : Int64) (a5 : Int32) (w : sm_Mem) : sm_Sim E (mi_rw_mixedInto) 30 [some (.ref a0), none, none, some (.long a3), none, some (.int a5)] [] w (ff_rw_mixedInto_30  a0 a3 a5 w) := ss_rw_mixedInto_30_f  sm_N a0 a3 a5 w
noncomputable def ff_rw_mixedInto  (a0 : Nat) (a1 : Int64) (w : sm_Mem) : sm_R := (sm_cI (sm_rc a0 2 (ff_rw_isMissing (a0) w)) fun x4 w5 => (if x4 = (0 : Int32) then (Option.bind (sm_gI w5 a0 2 1) fun x6 => ff_rw_mixedInto_30 (a0) ((((31 : Int64) * a1) + (Int32.toInt64 x6))) ((0 : Int32)) w5) else (some (.long (((31 : Int64) * a1) - (1 : Int64)), w5))))
set_option maxHeartbeats 4000000 in
set_option maxRecDepth 100000 in
theorem ss_rw_mixedInto_0 {E : Nat × (Nat → Int32)}  (a0 : Nat) (a1 : Int64) (w : sm_Mem) : sm_Sim E (mi_rw_mixedInto) 0 [some (.ref a0), some (.long a1), none, none, none, none] [] w (ff_rw_mixedInto  a0 a1 w) := by
  unfold ff_rw_mixedInto
  refine sm_aload_n ii_rw_mixedInto_0 rfl ?_
  refine sm_dvI [] [] rfl ii_rw_mixedInto_1 ml_rw_36 (mf_rw_isMissing) (mv_rw_isMissing) (Nat.le_of_ble_eq_true rfl) rfl 2 rfl rfl rfl (mc_rw_isMissing (a0) w) (fun x4 w5 => ?_)
  refine sm_if_eq 15 ii_rw_mixedInto_4 (by decide) ?_ ?_
  · refine sm_ldc2 (31 : Int64) ii_rw_mixedInto_15 (List.mem_of_getElem? (i := 808) (by decide +kernel)) ?_
    refine sm_lload_n ii_rw_mixedInto_18 rfl ?_
    refine sm_lmul ii_rw_mixedInto_19 ?_
    refine sm_aload_n ii_rw_mixedInto_20 rfl ?_
    refine sm_getIs ii_rw_mixedInto_21 fl_rw_21 (fun x6 => ?_)
    refine sm_i2l ii_rw_mixedInto_24 ?_
    refine sm_ladd ii_rw_mixedInto_25 ?_
    refine sm_lstore_n [some (.ref a0), some (.long a1), none, some (.long (((31 : Int64) * a1) + (Int32.toInt64 x6))), none, none] ii_rw_mixedInto_26 rfl rfl ?_
    refine sm_iconst (0 : Int32) ii_rw_mixedInto_27 (by decide) ?_
    refine sm_istore [some (.ref a0), some (.long a1), none, some (.long (((31 : Int64) * a1) + (Int32.toInt64 x6))), none, some (.int (0 : Int32))] ii_rw_mixedInto_28 rfl rfl ?_
    refine sm_msk [true, false, false, true, false, true] [some (.ref a0), none, none, some (.long (((31 : Int64) * a1) + (Int32.toInt64 x6))), none, some (.int (0 : Int32))] rfl ?_
    exact ss_rw_mixedInto_30 (a0) ((((31 : Int64) * a1) + (Int32.toInt64 x6))) ((0 : Int32)) w5
  · refine sm_ldc2 (31 : Int64) ii_rw_mixedInto_7 (List.mem_of_getElem? (i := 808) (by decide +kernel)) ?_
    refine sm_lload_n ii_rw_mixedInto_10 rfl ?_
    refine sm_lmul ii_rw_mixedInto_11 ?_
    refine sm_lconst (1 : Int64) ii_rw_mixedInto_12 (by decide) ?_
    refine sm_lsub ii_rw_mixedInto_13 ?_
    exact sm_lret ii_rw_mixedInto_14 rfl
set_option maxHeartbeats 4000000 in
set_option maxRecDepth 100000 in
theorem mc_rw_mixedInto {E : Nat × (Nat → Int32)} (a0 : Nat) (a1 : Int64) (w : sm_Mem) : sm_MC E mi_rw_mixedInto [.ref a0, .long a1] w (ff_rw_mixedInto a0 a1 w) := sm_MC_of E (by decide +kernel) rfl (Nat.le_of_ble_eq_true rfl) (ss_rw_mixedInto_0 a0 a1 w)
abbrev mi_ho_digest : sm_MI := (⟨"HerOrders", "digest", "()J"⟩, prog_1_method_45_code, 4, (some .long), 6)
set_option maxRecDepth 100000 in
theorem mf_ho_digest : sm_MF mi_ho_digest 0 := ⟨List.mem_of_getElem? (i := 787) (by decide +kernel), List.mem_of_getElem? (i := 69) (by decide +kernel), ⟨by decide, by decide⟩, by decide +kernel⟩
set_option maxRecDepth 100000 in
theorem mv_ho_digest : sm_MFV mi_ho_digest := ⟨List.mem_of_getElem? (i := 785) (by decide +kernel), List.mem_of_getElem? (i := 786) (by decide +kernel)⟩
set_option maxRecDepth 100000 in
theorem ii_ho_digest_0 : sm_D prog_1_method_45_code 0 3 3 (.ldc2_w 316) := ⟨by decide +kernel, rfl⟩
set_option maxRecDepth 100000 in
theorem ii_ho_digest_3 : sm_D prog_1_method_45_code 3 1 4 (.lstore_n 1) := ⟨by decide +kernel, rfl⟩
set_option maxRecDepth 100000 in
theorem ii_ho_digest_4 : sm_D prog_1_method_45_code 4 1 5 (.iconst 0) := ⟨by decide +kernel, rfl⟩
set_option maxRecDepth 100000 in
theorem ii_ho_digest_5 : sm_D prog_1_method_45_code 5 1 6 (.istore_n 3) := ⟨by decide +kernel, rfl⟩
set_option maxRecDepth 100000 in
theorem ii_ho_digest_6 : sm_D prog_1_method_45_code 6 1 7 (.iload_n 3) := ⟨by decide +kernel, rfl⟩
set_option maxRecDepth 100000 in
theorem ii_ho_digest_7 : sm_D prog_1_method_45_code 7 2 9 (.bipush 11) := ⟨by decide +kernel, rfl⟩
set_option maxRecDepth 100000 in
theorem ii_ho_digest_9 : sm_D prog_1_method_45_code 9 3 12 (.if_icmp .ge 22) := ⟨by decide +kernel, rfl⟩
set_option maxRecDepth 100000 in
theorem ii_ho_digest_12 : sm_D prog_1_method_45_code 12 3 15 (.ldc2_w 318) := ⟨by decide +kernel, rfl⟩
set_option maxRecDepth 100000 in
theorem ii_ho_digest_15 : sm_D prog_1_method_45_code 15 1 16 (.lload_n 1) := ⟨by decide +kernel, rfl⟩
set_option maxRecDepth 100000 in
theorem ii_ho_digest_16 : sm_D prog_1_method_45_code 16 1 17 (.lmul) := ⟨by decide +kernel, rfl⟩
set_option maxRecDepth 100000 in
theorem ii_ho_digest_17 : sm_D prog_1_method_45_code 17 1 18 (.aload_n 0) := ⟨by decide +kernel, rfl⟩
set_option maxRecDepth 100000 in
theorem ii_ho_digest_18 : sm_D prog_1_method_45_code 18 1 19 (.iload_n 3) := ⟨by decide +kernel, rfl⟩
set_option maxRecDepth 100000 in
theorem ii_ho_digest_19 : sm_D prog_1_method_45_code 19 3 22 (.invokevirtual 307) := ⟨by decide +kernel, rfl⟩
set_option maxRecDepth 100000 in
theorem ii_ho_digest_22 : sm_D prog_1_method_45_code 22 1 23 (.i2l) := ⟨by decide +kernel, rfl⟩
set_option maxRecDepth 100000 in
theorem ii_ho_digest_23 : sm_D prog_1_method_45_code 23 1 24 (.ladd) := ⟨by decide +kernel, rfl⟩
set_option maxRecDepth 100000 in
theorem ii_ho_digest_24 : sm_D prog_1_method_45_code 24 1 25 (.lstore_n 1) := ⟨by decide +kernel, rfl⟩
set_option maxRecDepth 100000 in
theorem ii_ho_digest_25 : sm_D prog_1_method_45_code 25 3 28 (.iinc 3 1) := ⟨by decide +kernel, rfl⟩
set_option maxRecDepth 100000 in
theorem ii_ho_digest_28 : sm_D prog_1_method_45_code 28 3 31 (.goto (-22)) := ⟨by decide +kernel, rfl⟩
set_option maxRecDepth 100000 in
theorem ii_ho_digest_31 : sm_D prog_1_method_45_code 31 1 32 (.aload_n 0) := ⟨by decide +kernel, rfl⟩
set_option maxRecDepth 100000 in
theorem ii_ho_digest_32 : sm_D prog_1_method_45_code 32 3 35 (.getfield 31) := ⟨by decide +kernel, rfl⟩
set_option maxRecDepth 100000 in
theorem ii_ho_digest_35 : sm_D prog_1_method_45_code 35 1 36 (.lload_n 1) := ⟨by decide +kernel, rfl⟩
set_option maxRecDepth 100000 in
theorem ii_ho_digest_36 : sm_D prog_1_method_45_code 36 3 39 (.invokevirtual 320) := ⟨by decide +kernel, rfl⟩
set_option maxRecDepth 100000 in
theorem ii_ho_digest_39 : sm_D prog_1_method_45_code 39 1 40 (.lstore_n 1) := ⟨by decide +kernel, rfl⟩
set_option maxRecDepth 100000 in
theorem ii_ho_digest_40 : sm_D prog_1_method_45_code 40 1 41 (.iconst 0) := ⟨by decide +kernel, rfl⟩
set_option maxRecDepth 100000 in
theorem ii_ho_digest_41 : sm_D prog_1_method_45_code 41 1 42 (.istore_n 3) := ⟨by decide +kernel, rfl⟩
set_option maxRecDepth 100000 in
theorem ii_ho_digest_42 : sm_D prog_1_method_45_code 42 1 43 (.iload_n 3) := ⟨by decide +kernel, rfl⟩
set_option maxRecDepth 100000 in
theorem ii_ho_digest_43 : sm_D prog_1_method_45_code 43 1 44 (.iconst 3) := ⟨by decide +kernel, rfl⟩
set_option maxRecDepth 100000 in
theorem ii_ho_digest_44 : sm_D prog_1_method_45_code 44 3 47 (.if_icmp .ge 42) := ⟨by decide +kernel, rfl⟩
set_option maxRecDepth 100000 in
theorem ii_ho_digest_47 : sm_D prog_1_method_45_code 47 3 50 (.ldc2_w 318) := ⟨by decide +kernel, rfl⟩
set_option maxRecDepth 100000 in
theorem ii_ho_digest_50 : sm_D prog_1_method_45_code 50 1 51 (.lload_n 1) := ⟨by decide +kernel, rfl⟩
set_option maxRecDepth 100000 in
theorem ii_ho_digest_51 : sm_D prog_1_method_45_code 51 1 52 (.lmul) := ⟨by decide +kernel, rfl⟩
set_option maxRecDepth 100000 in
theorem ii_ho_digest_52 : sm_D prog_1_method_45_code 52 1 53 (.aload_n 0) := ⟨by decide +kernel, rfl⟩
set_option maxRecDepth 100000 in
theorem ii_ho_digest_53 : sm_D prog_1_method_45_code 53 3 56 (.getfield 23) := ⟨by decide +kernel, rfl⟩
set_option maxRecDepth 100000 in
theorem ii_ho_digest_56 : sm_D prog_1_method_45_code 56 1 57 (.iload_n 3) := ⟨by decide +kernel, rfl⟩
set_option maxRecDepth 100000 in
theorem ii_ho_digest_57 : sm_D prog_1_method_45_code 57 1 58 (.aaload) := ⟨by decide +kernel, rfl⟩
set_option maxRecDepth 100000 in
theorem ii_ho_digest_58 : sm_D prog_1_method_45_code 58 3 61 (.invokevirtual 182) := ⟨by decide +kernel, rfl⟩
set_option maxRecDepth 100000 in
theorem ii_ho_digest_61 : sm_D prog_1_method_45_code 61 3 64 (.ifCond .eq 7) := ⟨by decide +kernel, rfl⟩
set_option maxRecDepth 100000 in
theorem ii_ho_digest_64 : sm_D prog_1_method_45_code 64 1 65 (.iconst (-1)) := ⟨by decide +kernel, rfl⟩
set_option maxRecDepth 100000 in
theorem ii_ho_digest_65 : sm_D prog_1_method_45_code 65 3 68 (.goto 12) := ⟨by decide +kernel, rfl⟩
set_option maxRecDepth 100000 in
theorem ii_ho_digest_68 : sm_D prog_1_method_45_code 68 1 69 (.aload_n 0) := ⟨by decide +kernel, rfl⟩
set_option maxRecDepth 100000 in
theorem ii_ho_digest_69 : sm_D prog_1_method_45_code 69 3 72 (.getfield 23) := ⟨by decide +kernel, rfl⟩
set_option maxRecDepth 100000 in
theorem ii_ho_digest_72 : sm_D prog_1_method_45_code 72 1 73 (.iload_n 3) := ⟨by decide +kernel, rfl⟩
set_option maxRecDepth 100000 in
theorem ii_ho_digest_73 : sm_D prog_1_method_45_code 73 1 74 (.aaload) := ⟨by decide +kernel, rfl⟩
set_option maxRecDepth 100000 in
theorem ii_ho_digest_74 : sm_D prog_1_method_45_code 74 3 77 (.getfield 114) := ⟨by decide +kernel, rfl⟩
set_option maxRecDepth 100000 in
theorem ii_ho_digest_77 : sm_D prog_1_method_45_code 77 1 78 (.i2l) := ⟨by decide +kernel, rfl⟩
set_option maxRecDepth 100000 in
theorem ii_ho_digest_78 : sm_D prog_1_method_45_code 78 1 79 (.ladd) := ⟨by decide +kernel, rfl⟩
set_option maxRecDepth 100000 in
theorem ii_ho_digest_79 : sm_D prog_1_method_45_code 79 1 80 (.lstore_n 1) := ⟨by decide +kernel, rfl⟩
set_option maxRecDepth 100000 in
theorem ii_ho_digest_80 : sm_D prog_1_method_45_code 80 3 83 (.iinc 3 1) := ⟨by decide +kernel, rfl⟩
set_option maxRecDepth 100000 in
theorem ii_ho_digest_83 : sm_D prog_1_method_45_code 83 3 86 (.goto (-41)) := ⟨by decide +kernel, rfl⟩
set_option maxRecDepth 100000 in
theorem ii_ho_digest_86 : sm_D prog_1_method_45_code 86 1 87 (.iconst 0) := ⟨by decide +kernel, rfl⟩
set_option maxRecDepth 100000 in
theorem ii_ho_digest_87 : sm_D prog_1_method_45_code 87 1 88 (.istore_n 3) := ⟨by decide +kernel, rfl⟩
set_option maxRecDepth 100000 in
theorem ii_ho_digest_88 : sm_D prog_1_method_45_code 88 1 89 (.iload_n 3) := ⟨by decide +kernel, rfl⟩
set_option maxRecDepth 100000 in
theorem ii_ho_digest_89 : sm_D prog_1_method_45_code 89 2 91 (.bipush 6) := ⟨by decide +kernel, rfl⟩
set_option maxRecDepth 100000 in
theorem ii_ho_digest_91 : sm_D prog_1_method_45_code 91 3 94 (.if_icmp .ge 20) := ⟨by decide +kernel, rfl⟩
set_option maxRecDepth 100000 in
theorem ii_ho_digest_94 : sm_D prog_1_method_45_code 94 1 95 (.aload_n 0) := ⟨by decide +kernel, rfl⟩
set_option maxRecDepth 100000 in
theorem ii_ho_digest_95 : sm_D prog_1_method_45_code 95 3 98 (.getfield 11) := ⟨by decide +kernel, rfl⟩
set_option maxRecDepth 100000 in
theorem ii_ho_digest_98 : sm_D prog_1_method_45_code 98 1 99 (.iload_n 3) := ⟨by decide +kernel, rfl⟩
set_option maxRecDepth 100000 in
theorem ii_ho_digest_99 : sm_D prog_1_method_45_code 99 1 100 (.aaload) := ⟨by decide +kernel, rfl⟩
set_option maxRecDepth 100000 in
theorem ii_ho_digest_100 : sm_D prog_1_method_45_code 100 1 101 (.lload_n 1) := ⟨by decide +kernel, rfl⟩
set_option maxRecDepth 100000 in
theorem ii_ho_digest_101 : sm_D prog_1_method_45_code 101 3 104 (.invokevirtual 324) := ⟨by decide +kernel, rfl⟩
set_option maxRecDepth 100000 in
theorem ii_ho_digest_104 : sm_D prog_1_method_45_code 104 1 105 (.lstore_n 1) := ⟨by decide +kernel, rfl⟩
set_option maxRecDepth 100000 in
theorem ii_ho_digest_105 : sm_D prog_1_method_45_code 105 3 108 (.iinc 3 1) := ⟨by decide +kernel, rfl⟩
set_option maxRecDepth 100000 in
theorem ii_ho_digest_108 : sm_D prog_1_method_45_code 108 3 111 (.goto (-20)) := ⟨by decide +kernel, rfl⟩
set_option maxRecDepth 100000 in
theorem ii_ho_digest_111 : sm_D prog_1_method_45_code 111 1 112 (.iconst 0) := ⟨by decide +kernel, rfl⟩
set_option maxRecDepth 100000 in
theorem ii_ho_digest_112 : sm_D prog_1_method_45_code 112 1 113 (.istore_n 3) := ⟨by decide +kernel, rfl⟩
set_option maxRecDepth 100000 in
theorem ii_ho_digest_113 : sm_D prog_1_method_45_code 113 1 114 (.iload_n 3) := ⟨by decide +kernel, rfl⟩
set_option maxRecDepth 100000 in
theorem ii_ho_digest_114 : sm_D prog_1_method_45_code 114 1 115 (.iconst 4) := ⟨by decide +kernel, rfl⟩
set_option maxRecDepth 100000 in
theorem ii_ho_digest_115 : sm_D prog_1_method_45_code 115 3 118 (.if_icmp .ge 20) := ⟨by decide +kernel, rfl⟩
set_option maxRecDepth 100000 in
theorem ii_ho_digest_118 : sm_D prog_1_method_45_code 118 1 119 (.aload_n 0) := ⟨by decide +kernel, rfl⟩
set_option maxRecDepth 100000 in
theorem ii_ho_digest_119 : sm_D prog_1_method_45_code 119 3 122 (.getfield 18) := ⟨by decide +kernel, rfl⟩
set_option maxRecDepth 100000 in
theorem ii_ho_digest_122 : sm_D prog_1_method_45_code 122 1 123 (.iload_n 3) := ⟨by decide +kernel, rfl⟩
set_option maxRecDepth 100000 in
theorem ii_ho_digest_123 : sm_D prog_1_method_45_code 123 1 124 (.aaload) := ⟨by decide +kernel, rfl⟩
set_option maxRecDepth 100000 in
theorem ii_ho_digest_124 : sm_D prog_1_method_45_code 124 1 125 (.lload_n 1) := ⟨by decide +kernel, rfl⟩
set_option maxRecDepth 100000 in
theorem ii_ho_digest_125 : sm_D prog_1_method_45_code 125 3 128 (.invokevirtual 324) := ⟨by decide +kernel, rfl⟩
set_option maxRecDepth 100000 in
theorem ii_ho_digest_128 : sm_D prog_1_method_45_code 128 1 129 (.lstore_n 1) := ⟨by decide +kernel, rfl⟩
set_option maxRecDepth 100000 in
theorem ii_ho_digest_129 : sm_D prog_1_method_45_code 129 3 132 (.iinc 3 1) := ⟨by decide +kernel, rfl⟩
set_option maxRecDepth 100000 in
theorem ii_ho_digest_132 : sm_D prog_1_method_45_code 132 3 135 (.goto (-19)) := ⟨by decide +kernel, rfl⟩
set_option maxRecDepth 100000 in
theorem ii_ho_digest_135 : sm_D prog_1_method_45_code 135 1 136 (.lload_n 1) := ⟨by decide +kernel, rfl⟩
set_option maxRecDepth 100000 in
theorem ii_ho_digest_136 : sm_D prog_1_method_45_code 136 1 137 (.lreturn) := ⟨by decide +kernel, rfl⟩
noncomputable def ff_ho_digest_113_b  (self113 : Int64 → Int32 → sm_Mem → sm_R) (a1 : Int64) (a3 : Int32) (w : sm_Mem) : sm_R := (if (4 : Int32) ≤ a3 then (some (.long a1, w)) else (Option.bind (sm_rr 14 a3) fun r1 => (sm_cL (sm_rc r1 2 (ff_rw_mixedInto (r1) (a1) w)) fun x2 w3 => self113 (x2) ((a3 + (1 : Int32))) w3)))
noncomputable def ff_ho_digest_113_f  : Nat → Int64 → Int32 → sm_Mem → sm_R
  | 0, _, _, _ => none
  | n + 1, a1, a3, w => ff_ho_digest_113_b  (ff_ho_digest_113_f  n) a1 a3 w
noncomputable def ff_ho_digest_113  (a1 : Int64) (a3 : Int32) (w : sm_Mem) : sm_R := ff_ho_digest_113_f  sm_N a1 a3 w
set_option maxHeartbeats 4000000 in
set_option maxRecDepth 100000 in
theorem ss_ho_digest_113_b {E : Nat × (Nat → Int32)}  (self113 : Int64 → Int32 → sm_Mem → sm_R) (hself113 : ∀ (a1 : Int64) (a3 : Int32) (w : sm_Mem), sm_Sim E (mi_ho_digest) 113 [some (.ref 0), some (.long a1), none, some (.int a3)] [] w (self113 a1 a3 w)) (a1 : Int64) (a3 : Int32) (w : sm_Mem) : sm_Sim E (mi_ho_digest) 113 [some (.ref 0), some (.long a1), none, some (.int a3)] [] w (ff_ho_digest_113_b  self113 a1 a3 w) := by
  unfold ff_ho_digest_113_b
  refine sm_iload_n ii_ho_digest_113 rfl ?_
  refine sm_iconst (4 : Int32) ii_ho_digest_114 (by decide) ?_
  refine sm_icmp_ge 135 ii_ho_digest_115 (by decide) ?_ ?_
  · refine sm_lload_n ii_ho_digest_135 rfl ?_
    exact sm_lret ii_ho_digest_136 rfl
  · refine sm_aload_n ii_ho_digest_118 rfl ?_
    refine sm_getR 14 ii_ho_digest_119 fl_ho_18 (k := 0) rfl ?_
    refine sm_iload_n ii_ho_digest_122 rfl ?_
    refine sm_aald ii_ho_digest_123 (fun r1 => ?_)
    refine sm_lload_n ii_ho_digest_124 rfl ?_
    refine sm_dvL [.long a1] [] rfl ii_ho_digest_125 ml_ho_324 (mf_rw_mixedInto) (mv_rw_mixedInto) (Nat.le_of_ble_eq_true rfl) rfl 2 rfl rfl rfl (mc_rw_mixedInto (r1) (a1) w) (fun x2 w3 => ?_)
    refine sm_lstore_n [some (.ref 0), some (.long x2), none, some (.int a3)] ii_ho_digest_128 rfl rfl ?_
    refine sm_iinc (a3 + (1 : Int32)) [some (.ref 0), some (.long x2), none, some (.int (a3 + (1 : Int32)))] ii_ho_digest_129 rfl rfl rfl rfl ?_
    refine sm_goto 113 ii_ho_digest_132 (by decide) ?_
    exact hself113 (x2) ((a3 + (1 : Int32))) w3
set_option maxHeartbeats 4000000 in
set_option maxRecDepth 100000 in
theorem ss_ho_digest_113_f {E : Nat × (Nat → Int32)}  : ∀ (n : Nat) (a1 : Int64) (a3 : Int32) (w : sm_Mem), sm_Sim E (mi_ho_digest) 113 [some (.ref 0), some (.long a1), none, some (.int a3)] [] w (ff_ho_digest_113_f  n a1 a3 w)
  | 0, _, _, _ => fun _ _ h => by cases h
  | n + 1, a1, a3, w => ss_ho_digest_113_b  _ (ss_ho_digest_113_f  n) a1 a3 w
set_option maxHeartbeats 4000000 in
set_option maxRecDepth 100000 in
theorem ss_ho_digest_113 {E : Nat × (Nat → Int32)}  (a1 : Int64) (a3 : Int32) (w : sm_Mem) : sm_Sim E (mi_ho_digest) 113 [some (.ref 0), some (.long a1), none, some (.int a3)] [] w (ff_ho_digest_113  a1 a3 w) := ss_ho_digest_113_f  sm_N a1 a3 w
noncomputable def ff_ho_digest_88_b  (self88 : Int64 → Int32 → sm_Mem → sm_R) (a1 : Int64) (a3 : Int32) (w : sm_Mem) : sm_R := (if (6 : Int32) ≤ a3 then ff_ho_digest_113 (a1) ((0 : Int32)) w else (Option.bind (sm_rr 1 a3) fun r4 => (sm_cL (sm_rc r4 2 (ff_rw_mixedInto (r4) (a1) w)) fun x5 w6 => self88 (x5) ((a3 + (1 : Int32))) w6)))
noncomputable def ff_ho_digest_88_f  : Nat → Int64 → Int32 → sm_Mem → sm_R
  | 0, _, _, _ => none
  | n + 1, a1, a3, w => ff_ho_digest_88_b  (ff_ho_digest_88_f  n) a1 a3 w
noncomputable def ff_ho_digest_88  (a1 : Int64) (a3 : Int32) (w : sm_Mem) : sm_R := ff_ho_digest_88_f  sm_N a1 a3 w
set_option maxHeartbeats 4000000 in
set_option maxRecDepth 100000 in
theorem ss_ho_digest_88_b {E : Nat × (Nat → Int32)}  (self88 : Int64 → Int32 → sm_Mem → sm_R) (hself88 : ∀ (a1 : Int64) (a3 : Int32) (w : sm_Mem), sm_Sim E (mi_ho_digest) 88 [some (.ref 0), some (.long a1), none, some (.int a3)] [] w (self88 a1 a3 w)) (a1 : Int64) (a3 : Int32) (w : sm_Mem) : sm_Sim E (mi_ho_digest) 88 [some (.ref 0), some (.long a1), none, some (.int a3)] [] w (ff_ho_digest_88_b  self88 a1 a3 w) := by
  unfold ff_ho_digest_88_b
  refine sm_iload_n ii_ho_digest_88 rfl ?_
  refine sm_bipush (6 : Int32) ii_ho_digest_89 (by decide) ?_
  refine sm_icmp_ge 111 ii_ho_digest_91 (by decide) ?_ ?_
  · refine sm_iconst (0 : Int32) ii_ho_digest_111 (by decide) ?_
    refine sm_istore_n [some (.ref 0), some (.long a1), none, some (.int (0 : Int32))] ii_ho_digest_112 rfl rfl ?_
    exact ss_ho_digest_113 (a1) ((0 : Int32)) w
  · refine sm_aload_n ii_ho_digest_94 rfl ?_
    refine sm_getR 1 ii_ho_digest_95 fl_ho_11 (k := 0) rfl ?_
    refine sm_iload_n ii_ho_digest_98 rfl ?_
    refine sm_aald ii_ho_digest_99 (fun r4 => ?_)
    refine sm_lload_n ii_ho_digest_100 rfl ?_
    refine sm_dvL [.long a1] [] rfl ii_ho_digest_101 ml_ho_324 (mf_rw_mixedInto) (mv_rw_mixedInto) (Nat.le_of_ble_eq_true rfl) rfl 2 rfl rfl rfl (mc_rw_mixedInto (r4) (a1) w) (fun x5 w6 => ?_)
    refine sm_lstore_n [some (.ref 0), some (.long x5), none, some (.int a3)] ii_ho_digest_104 rfl rfl ?_
    refine sm_iinc (a3 + (1 : Int32)) [some (.ref 0), some (.long x5), none, some (.int (a3 + (1 : Int32)))] ii_ho_digest_105 rfl rfl rfl rfl ?_
    refine sm_goto 88 ii_ho_digest_108 (by decide) ?_
    exact hself88 (x5) ((a3 + (1 : Int32))) w6
set_option maxHeartbeats 4000000 in
set_option maxRecDepth 100000 in
theorem ss_ho_digest_88_f {E : Nat × (Nat → Int32)}  : ∀ (n : Nat) (a1 : Int64) (a3 : Int32) (w : sm_Mem), sm_Sim E (mi_ho_digest) 88 [some (.ref 0), some (.long a1), none, some (.int a3)] [] w (ff_ho_digest_88_f  n a1 a3 w)
  | 0, _, _, _ => fun _ _ h => by cases h
  | n + 1, a1, a3, w => ss_ho_digest_88_b  _ (ss_ho_digest_88_f  n) a1 a3 w
set_option maxHeartbeats 4000000 in
set_option maxRecDepth 100000 in
theorem ss_ho_digest_88 {E : Nat × (Nat → Int32)}  (a1 : Int64) (a3 : Int32) (w : sm_Mem) : sm_Sim E (mi_ho_digest) 88 [some (.ref 0), some (.long a1), none, some (.int a3)] [] w (ff_ho_digest_88  a1 a3 w) := ss_ho_digest_88_f  sm_N a1 a3 w
noncomputable def ff_ho_digest_77 (self42 : Int64 → Int32 → sm_Mem → sm_R) (a3 : Int32) (b0 : Int64) (b1 : Int32) (w : sm_Mem) : sm_R := self42 ((b0 + (Int32.toInt64 b1))) ((a3 + (1 : Int32))) w
set_option maxHeartbeats 4000000 in
set_option maxRecDepth 100000 in
theorem ss_ho_digest_77 {E : Nat × (Nat → Int32)} (self42 : Int64 → Int32 → sm_Mem → sm_R) (hself42 : ∀ (a1 : Int64) (a3 : Int32) (w : sm_Mem), sm_Sim E (mi_ho_digest) 42 [some (.ref 0), some (.long a1), none, some (.int a3)] [] w (self42 a1 a3 w)) (a3 : Int32) (b0 : Int64) (b1 : Int32) (w : sm_Mem) : sm_Sim E (mi_ho_digest) 77 [some (.ref 0), none, none, some (.int a3)] [.int b1, .long b0] w (ff_ho_digest_77 self42 a3 b0 b1 w) := by
  unfold ff_ho_digest_77
  refine sm_i2l ii_ho_digest_77 ?_
  refine sm_ladd ii_ho_digest_78 ?_
  refine sm_lstore_n [some (.ref 0), some (.long (b0 + (Int32.toInt64 b1))), none, some (.int a3)] ii_ho_digest_79 rfl rfl ?_
  refine sm_iinc (a3 + (1 : Int32)) [some (.ref 0), some (.long (b0 + (Int32.toInt64 b1))), none, some (.int (a3 + (1 : Int32)))] ii_ho_digest_80 rfl rfl rfl rfl ?_
  refine sm_goto 42 ii_ho_digest_83 (by decide) ?_
  exact hself42 ((b0 + (Int32.toInt64 b1))) ((a3 + (1 : Int32))) w
noncomputable def ff_ho_digest_42_b  (self42 : Int64 → Int32 → sm_Mem → sm_R) (a1 : Int64) (a3 : Int32) (w : sm_Mem) : sm_R := (if (3 : Int32) ≤ a3 then ff_ho_digest_88 (a1) ((0 : Int32)) w else (Option.bind (sm_rr 23 a3) fun r7 => (sm_cI (sm_rc r7 0 (ff_de_isMissing (r7) w)) fun x8 w9 => (if x8 = (0 : Int32) then (Option.bind (sm_rr 23 a3) fun r10 => (Option.bind (sm_gI w9 r10 0 3) fun x11 => ff_ho_digest_77 self42 (a3) (((31 : Int64) * a1)) (x11) w9)) else ff_ho_digest_77 self42 (a3) (((31 : Int64) * a1)) ((-1 : Int32)) w9))))
noncomputable def ff_ho_digest_42_f  : Nat → Int64 → Int32 → sm_Mem → sm_R
  | 0, _, _, _ => none
  | n + 1, a1, a3, w => ff_ho_digest_42_b  (ff_ho_digest_42_f  n) a1 a3 w
noncomputable def ff_ho_digest_42  (a1 : Int64) (a3 : Int32) (w : sm_Mem) : sm_R := ff_ho_digest_42_f  sm_N a1 a3 w
set_option maxHeartbeats 4000000 in
set_option maxRecDepth 100000 in
theorem ss_ho_digest_42_b {E : Nat × (Nat → Int32)}  (self42 : Int64 → Int32 → sm_Mem → sm_R) (hself42 : ∀ (a1 : Int64) (a3 : Int32) (w : sm_Mem), sm_Sim E (mi_ho_digest) 42 [some (.ref 0), some (.long a1), none, some (.int a3)] [] w (self42 a1 a3 w)) (a1 : Int64) (a3 : Int32) (w : sm_Mem) : sm_Sim E (mi_ho_digest) 42 [some (.ref 0), some (.long a1), none, some (.int a3)] [] w (ff_ho_digest_42_b  self42 a1 a3 w) := by
  unfold ff_ho_digest_42_b
  refine sm_iload_n ii_ho_digest_42 rfl ?_
  refine sm_iconst (3 : Int32) ii_ho_digest_43 (by decide) ?_
  refine sm_icmp_ge 86 ii_ho_digest_44 (by decide) ?_ ?_
  · refine sm_iconst (0 : Int32) ii_ho_digest_86 (by decide) ?_
    refine sm_istore_n [some (.ref 0), some (.long a1), none, some (.int (0 : Int32))] ii_ho_digest_87 rfl rfl ?_
    exact ss_ho_digest_88 (a1) ((0 : Int32)) w
  · refine sm_ldc2 (31 : Int64) ii_ho_digest_47 (List.mem_of_getElem? (i := 789) (by decide +kernel)) ?_
    refine sm_lload_n ii_ho_digest_50 rfl ?_
    refine sm_lmul ii_ho_digest_51 ?_
    refine sm_aload_n ii_ho_digest_52 rfl ?_
    refine sm_getR 23 ii_ho_digest_53 fl_ho_23 (k := 0) rfl ?_
    refine sm_iload_n ii_ho_digest_56 rfl ?_
    refine sm_aald ii_ho_digest_57 (fun r7 => ?_)
    refine sm_dvI [] [.long ((31 : Int64) * a1)] rfl ii_ho_digest_58 ml_ho_182 (mf_de_isMissing) (mv_de_isMissing) (Nat.le_of_ble_eq_true rfl) rfl 0 rfl rfl rfl (mc_de_isMissing (r7) w) (fun x8 w9 => ?_)
    refine sm_if_eq 68 ii_ho_digest_61 (by decide) ?_ ?_
    · refine sm_aload_n ii_ho_digest_68 rfl ?_
      refine sm_getR 23 ii_ho_digest_69 fl_ho_23 (k := 0) rfl ?_
      refine sm_iload_n ii_ho_digest_72 rfl ?_
      refine sm_aald ii_ho_digest_73 (fun r10 => ?_)
      refine sm_getIs ii_ho_digest_74 fl_ho_114 (fun x11 => ?_)
      refine sm_msk [true, false, false, true] [some (.ref 0), none, none, some (.int a3)] rfl ?_
      exact ss_ho_digest_77 self42 hself42 (a3) (((31 : Int64) * a1)) (x11) w9
    · refine sm_iconst (-1 : Int32) ii_ho_digest_64 (by decide) ?_
      refine sm_goto 77 ii_ho_digest_65 (by decide) ?_
      refine sm_msk [true, false, false, true] [some (.ref 0), none, none, some (.int a3)] rfl ?_
      exact ss_ho_digest_77 self42 hself42 (a3) (((31 : Int64) * a1)) ((-1 : Int32)) w9
set_option maxHeartbeats 4000000 in
set_option maxRecDepth 100000 in
theorem ss_ho_digest_42_f {E : Nat × (Nat → Int32)}  : ∀ (n : Nat) (a1 : Int64) (a3 : Int32) (w : sm_Mem), sm_Sim E (mi_ho_digest) 42 [some (.ref 0), some (.long a1), none, some (.int a3)] [] w (ff_ho_digest_42_f  n a1 a3 w)
  | 0, _, _, _ => fun _ _ h => by cases h
  | n + 1, a1, a3, w => ss_ho_digest_42_b  _ (ss_ho_digest_42_f  n) a1 a3 w
set_option maxHeartbeats 4000000 in
set_option maxRecDepth 100000 in
theorem ss_ho_digest_42 {E : Nat × (Nat → Int32)}  (a1 : Int64) (a3 : Int32) (w : sm_Mem) : sm_Sim E (mi_ho_digest) 42 [some (.ref 0), some (.long a1), none, some (.int a3)] [] w (ff_ho_digest_42  a1 a3 w) := ss_ho_digest_42_f  sm_N a1 a3 w
noncomputable def ff_ho_digest_6_b  (self6 : Int64 → Int32 → sm_Mem → sm_R) (a1 : Int64) (a3 : Int32) (w : sm_Mem) : sm_R := (if (11 : Int32) ≤ a3 then (sm_cL (ff_hs_mixedInto (a1) w) fun x12 w13 => ff_ho_digest_42 (x12) ((0 : Int32)) w13) else (sm_cI (ff_ho_tally (a3) w) fun x14 w15 => self6 ((((31 : Int64) * a1) + (Int32.toInt64 x14))) ((a3 + (1 : Int32))) w15))
noncomputable def ff_ho_digest_6_f  : Nat → Int64 → Int32 → sm_Mem → sm_R
  | 0, _, _, _ => none
  | n + 1, a1, a3, w => ff_ho_digest_6_b  (ff_ho_digest_6_f  n) a1 a3 w
noncomputable def ff_ho_digest_6  (a1 : Int64) (a3 : Int32) (w : sm_Mem) : sm_R := ff_ho_digest_6_f  sm_N a1 a3 w
set_option maxHeartbeats 4000000 in
set_option maxRecDepth 100000 in
theorem ss_ho_digest_6_b {E : Nat × (Nat → Int32)}  (self6 : Int64 → Int32 → sm_Mem → sm_R) (hself6 : ∀ (a1 : Int64) (a3 : Int32) (w : sm_Mem), sm_Sim E (mi_ho_digest) 6 [some (.ref 0), some (.long a1), none, some (.int a3)] [] w (self6 a1 a3 w)) (a1 : Int64) (a3 : Int32) (w : sm_Mem) : sm_Sim E (mi_ho_digest) 6 [some (.ref 0), some (.long a1), none, some (.int a3)] [] w (ff_ho_digest_6_b  self6 a1 a3 w) := by
  unfold ff_ho_digest_6_b
  refine sm_iload_n ii_ho_digest_6 rfl ?_
  refine sm_bipush (11 : Int32) ii_ho_digest_7 (by decide) ?_
  refine sm_icmp_ge 31 ii_ho_digest_9 (by decide) ?_ ?_
  · refine sm_aload_n ii_ho_digest_31 rfl ?_
    refine sm_getR 36 ii_ho_digest_32 fl_ho_31 (k := 0) rfl ?_
    refine sm_lload_n ii_ho_digest_35 rfl ?_
    refine sm_cvL [.long a1] [] rfl ii_ho_digest_36 ml_ho_320 (mf_hs_mixedInto) (mv_hs_mixedInto) (Nat.le_of_ble_eq_true rfl) rfl 1 rfl rfl rfl rfl (mc_hs_mixedInto (a1) w) (fun x12 w13 => ?_)
    refine sm_lstore_n [some (.ref 0), some (.long x12), none, some (.int a3)] ii_ho_digest_39 rfl rfl ?_
    refine sm_iconst (0 : Int32) ii_ho_digest_40 (by decide) ?_
    refine sm_istore_n [some (.ref 0), some (.long x12), none, some (.int (0 : Int32))] ii_ho_digest_41 rfl rfl ?_
    exact ss_ho_digest_42 (x12) ((0 : Int32)) w13
  · refine sm_ldc2 (31 : Int64) ii_ho_digest_12 (List.mem_of_getElem? (i := 789) (by decide +kernel)) ?_
    refine sm_lload_n ii_ho_digest_15 rfl ?_
    refine sm_lmul ii_ho_digest_16 ?_
    refine sm_aload_n ii_ho_digest_17 rfl ?_
    refine sm_iload_n ii_ho_digest_18 rfl ?_
    refine sm_cvI [.int a3] [.long ((31 : Int64) * a1)] rfl ii_ho_digest_19 ml_ho_307 (mf_ho_tally) (mv_ho_tally) (Nat.le_of_ble_eq_true rfl) rfl 6 rfl rfl rfl rfl (mc_ho_tally (a3) w) (fun x14 w15 => ?_)
    refine sm_i2l ii_ho_digest_22 ?_
    refine sm_ladd ii_ho_digest_23 ?_
    refine sm_lstore_n [some (.ref 0), some (.long (((31 : Int64) * a1) + (Int32.toInt64 x14))), none, some (.int a3)] ii_ho_digest_24 rfl rfl ?_
    refine sm_iinc (a3 + (1 : Int32)) [some (.ref 0), some (.long (((31 : Int64) * a1) + (Int32.toInt64 x14))), none, some (.int (a3 + (1 : Int32)))] ii_ho_digest_25 rfl rfl rfl rfl ?_
    refine sm_goto 6 ii_ho_digest_28 (by decide) ?_
    exact hself6 ((((31 : Int64) * a1) + (Int32.toInt64 x14))) ((a3 + (1 : Int32))) w15
set_option maxHeartbeats 4000000 in
set_option maxRecDepth 100000 in
theorem ss_ho_digest_6_f {E : Nat × (Nat → Int32)}  : ∀ (n : Nat) (a1 : Int64) (a3 : Int32) (w : sm_Mem), sm_Sim E (mi_ho_digest) 6 [some (.ref 0), some (.long a1), none, some (.int a3)] [] w (ff_ho_digest_6_f  n a1 a3 w)
  | 0, _, _, _ => fun _ _ h => by cases h
  | n + 1, a1, a3, w => ss_ho_digest_6_b  _ (ss_ho_digest_6_f  n) a1 a3 w
set_option maxHeartbeats 4000000 in
set_option maxRecDepth 100000 in
theorem ss_ho_digest_6 {E : Nat × (Nat → Int32)}  (a1 : Int64) (a3 : Int32) (w : sm_Mem) : sm_Sim E (mi_ho_digest) 6 [some (.ref 0), some (.long a1), none, some (.int a3)] [] w (ff_ho_digest_6  a1 a3 w) := ss_ho_digest_6_f  sm_N a1 a3 w
noncomputable def ff_ho_digest   (w : sm_Mem) : sm_R := ff_ho_digest_6 ((17 : Int64)) ((0 : Int32)) w
set_option maxHeartbeats 4000000 in
set_option maxRecDepth 100000 in
theorem ss_ho_digest_0 {E : Nat × (Nat → Int32)}   (w : sm_Mem) : sm_Sim E (mi_ho_digest) 0 [some (.ref 0), none, none, none] [] w (ff_ho_digest   w) := by
  unfold ff_ho_digest
  refine sm_ldc2 (17 : Int64) ii_ho_digest_0 (List.mem_of_getElem? (i := 788) (by decide +kernel)) ?_
  refine sm_lstore_n [some (.ref 0), some (.long (17 : Int64)), none, none] ii_ho_digest_3 rfl rfl ?_
  refine sm_iconst (0 : Int32) ii_ho_digest_4 (by decide) ?_
  refine sm_istore_n [some (.ref 0), some (.long (17 : Int64)), none, some (.int (0 : Int32))] ii_ho_digest_5 rfl rfl ?_
  exact ss_ho_digest_6 ((17 : Int64)) ((0 : Int32)) w
set_option maxHeartbeats 4000000 in
set_option maxRecDepth 100000 in
theorem mc_ho_digest {E : Nat × (Nat → Int32)}  (w : sm_Mem) : sm_MC E mi_ho_digest [.ref 0] w (ff_ho_digest  w) := sm_MC_of E (by decide +kernel) rfl (Nat.le_of_ble_eq_true rfl) (ss_ho_digest_0  w)
abbrev mi_de_become : sm_MI := (⟨"HerOrders$Deeds", "become", "(LHerOrders$Deeds;)V"⟩, prog_2_method_4_code, 3, none, 1)
set_option maxRecDepth 100000 in
theorem mf_de_become : sm_MF mi_de_become 1 := ⟨List.mem_of_getElem? (i := 465) (by decide +kernel), List.mem_of_getElem? (i := 72) (by decide +kernel), ⟨by decide, by decide⟩, by decide +kernel⟩
set_option maxRecDepth 100000 in
theorem mv_de_become : sm_MFV mi_de_become := ⟨List.mem_of_getElem? (i := 464) (by decide +kernel), List.mem_of_getElem? (i := 18) (by decide +kernel)⟩
set_option maxRecDepth 100000 in
theorem ii_de_become_0 : sm_D prog_2_method_4_code 0 1 1 (.aload_n 0) := ⟨by decide +kernel, rfl⟩
set_option maxRecDepth 100000 in
theorem ii_de_become_1 : sm_D prog_2_method_4_code 1 1 2 (.aload_n 1) := ⟨by decide +kernel, rfl⟩
set_option maxRecDepth 100000 in
theorem ii_de_become_2 : sm_D prog_2_method_4_code 2 3 5 (.getfield 21) := ⟨by decide +kernel, rfl⟩
set_option maxRecDepth 100000 in
theorem ii_de_become_5 : sm_D prog_2_method_4_code 5 3 8 (.putfield 21) := ⟨by decide +kernel, rfl⟩
set_option maxRecDepth 100000 in
theorem ii_de_become_8 : sm_D prog_2_method_4_code 8 1 9 (.iconst 0) := ⟨by decide +kernel, rfl⟩
set_option maxRecDepth 100000 in
theorem ii_de_become_9 : sm_D prog_2_method_4_code 9 1 10 (.istore_n 2) := ⟨by decide +kernel, rfl⟩
set_option maxRecDepth 100000 in
theorem ii_de_become_10 : sm_D prog_2_method_4_code 10 1 11 (.iload_n 2) := ⟨by decide +kernel, rfl⟩
set_option maxRecDepth 100000 in
theorem ii_de_become_11 : sm_D prog_2_method_4_code 11 1 12 (.aload_n 0) := ⟨by decide +kernel, rfl⟩
set_option maxRecDepth 100000 in
theorem ii_de_become_12 : sm_D prog_2_method_4_code 12 3 15 (.getfield 21) := ⟨by decide +kernel, rfl⟩
set_option maxRecDepth 100000 in
theorem ii_de_become_15 : sm_D prog_2_method_4_code 15 3 18 (.if_icmp .ge 45) := ⟨by decide +kernel, rfl⟩
set_option maxRecDepth 100000 in
theorem ii_de_become_18 : sm_D prog_2_method_4_code 18 1 19 (.aload_n 0) := ⟨by decide +kernel, rfl⟩
set_option maxRecDepth 100000 in
theorem ii_de_become_19 : sm_D prog_2_method_4_code 19 3 22 (.getfield 9) := ⟨by decide +kernel, rfl⟩
set_option maxRecDepth 100000 in
theorem ii_de_become_22 : sm_D prog_2_method_4_code 22 1 23 (.iload_n 2) := ⟨by decide +kernel, rfl⟩
set_option maxRecDepth 100000 in
theorem ii_de_become_23 : sm_D prog_2_method_4_code 23 1 24 (.aload_n 1) := ⟨by decide +kernel, rfl⟩
set_option maxRecDepth 100000 in
theorem ii_de_become_24 : sm_D prog_2_method_4_code 24 3 27 (.getfield 9) := ⟨by decide +kernel, rfl⟩
set_option maxRecDepth 100000 in
theorem ii_de_become_27 : sm_D prog_2_method_4_code 27 1 28 (.iload_n 2) := ⟨by decide +kernel, rfl⟩
set_option maxRecDepth 100000 in
theorem ii_de_become_28 : sm_D prog_2_method_4_code 28 1 29 (.iaload) := ⟨by decide +kernel, rfl⟩
set_option maxRecDepth 100000 in
theorem ii_de_become_29 : sm_D prog_2_method_4_code 29 1 30 (.iastore) := ⟨by decide +kernel, rfl⟩
set_option maxRecDepth 100000 in
theorem ii_de_become_30 : sm_D prog_2_method_4_code 30 1 31 (.aload_n 0) := ⟨by decide +kernel, rfl⟩
set_option maxRecDepth 100000 in
theorem ii_de_become_31 : sm_D prog_2_method_4_code 31 3 34 (.getfield 15) := ⟨by decide +kernel, rfl⟩
set_option maxRecDepth 100000 in
theorem ii_de_become_34 : sm_D prog_2_method_4_code 34 1 35 (.iload_n 2) := ⟨by decide +kernel, rfl⟩
set_option maxRecDepth 100000 in
theorem ii_de_become_35 : sm_D prog_2_method_4_code 35 1 36 (.aload_n 1) := ⟨by decide +kernel, rfl⟩
set_option maxRecDepth 100000 in
theorem ii_de_become_36 : sm_D prog_2_method_4_code 36 3 39 (.getfield 15) := ⟨by decide +kernel, rfl⟩
set_option maxRecDepth 100000 in
theorem ii_de_become_39 : sm_D prog_2_method_4_code 39 1 40 (.iload_n 2) := ⟨by decide +kernel, rfl⟩
set_option maxRecDepth 100000 in
theorem ii_de_become_40 : sm_D prog_2_method_4_code 40 1 41 (.iaload) := ⟨by decide +kernel, rfl⟩
set_option maxRecDepth 100000 in
theorem ii_de_become_41 : sm_D prog_2_method_4_code 41 1 42 (.iastore) := ⟨by decide +kernel, rfl⟩
set_option maxRecDepth 100000 in
theorem ii_de_become_42 : sm_D prog_2_method_4_code 42 1 43 (.aload_n 0) := ⟨by decide +kernel, rfl⟩
set_option maxRecDepth 100000 in
theorem ii_de_become_43 : sm_D prog_2_method_4_code 43 3 46 (.getfield 18) := ⟨by decide +kernel, rfl⟩
set_option maxRecDepth 100000 in
theorem ii_de_become_46 : sm_D prog_2_method_4_code 46 1 47 (.iload_n 2) := ⟨by decide +kernel, rfl⟩
set_option maxRecDepth 100000 in
theorem ii_de_become_47 : sm_D prog_2_method_4_code 47 1 48 (.aload_n 1) := ⟨by decide +kernel, rfl⟩
set_option maxRecDepth 100000 in
theorem ii_de_become_48 : sm_D prog_2_method_4_code 48 3 51 (.getfield 18) := ⟨by decide +kernel, rfl⟩
set_option maxRecDepth 100000 in
theorem ii_de_become_51 : sm_D prog_2_method_4_code 51 1 52 (.iload_n 2) := ⟨by decide +kernel, rfl⟩
set_option maxRecDepth 100000 in
theorem ii_de_become_52 : sm_D prog_2_method_4_code 52 1 53 (.iaload) := ⟨by decide +kernel, rfl⟩
set_option maxRecDepth 100000 in
theorem ii_de_become_53 : sm_D prog_2_method_4_code 53 1 54 (.iastore) := ⟨by decide +kernel, rfl⟩
set_option maxRecDepth 100000 in
theorem ii_de_become_54 : sm_D prog_2_method_4_code 54 3 57 (.iinc 2 1) := ⟨by decide +kernel, rfl⟩
set_option maxRecDepth 100000 in
theorem ii_de_become_57 : sm_D prog_2_method_4_code 57 3 60 (.goto (-47)) := ⟨by decide +kernel, rfl⟩
set_option maxRecDepth 100000 in
theorem ii_de_become_60 : sm_D prog_2_method_4_code 60 1 61 (.return_) := ⟨by decide +kernel, rfl⟩
noncomputable def ff_de_become_10_b  (self10 : Nat → Nat → Int32 → sm_Mem → sm_R) (a0 : Nat) (a1 : Nat) (a2 : Int32) (w : sm_Mem) : sm_R := (Option.bind (sm_gI w a0 0 3) fun x1 => (if x1 ≤ a2 then (some (.null, w)) else (Option.bind (sm_fk a0 0 0 2) fun r2 => (Option.bind (sm_fk a1 0 0 2) fun r3 => (Option.bind (sm_rds w r3 a2) fun x4 => (Option.bind (sm_wrs w r2 a2 x4) fun w5 => (Option.bind (sm_fk a0 0 1 2) fun r6 => (Option.bind (sm_fk a1 0 1 2) fun r7 => (Option.bind (sm_rds w5 r7 a2) fun x8 => (Option.bind (sm_wrs w5 r6 a2 x8) fun w9 => (Option.bind (sm_fk a0 0 2 2) fun r10 => (Option.bind (sm_fk a1 0 2 2) fun r11 => (Option.bind (sm_rds w9 r11 a2) fun x12 => (Option.bind (sm_wrs w9 r10 a2 x12) fun w13 => self10 (a0) (a1) ((a2 + (1 : Int32))) w13))))))))))))))
noncomputable def ff_de_become_10_f  : Nat → Nat → Nat → Int32 → sm_Mem → sm_R
  | 0, _, _, _, _ => none
  | n + 1, a0, a1, a2, w => ff_de_become_10_b  (ff_de_become_10_f  n) a0 a1 a2 w
noncomputable def ff_de_become_10  (a0 : Nat) (a1 : Nat) (a2 : Int32) (w : sm_Mem) : sm_R := ff_de_become_10_f  sm_N a0 a1 a2 w
set_option maxHeartbeats 4000000 in
set_option maxRecDepth 100000 in
theorem ss_de_become_10_b {E : Nat × (Nat → Int32)}  (self10 : Nat → Nat → Int32 → sm_Mem → sm_R) (hself10 : ∀ (a0 : Nat) (a1 : Nat) (a2 : Int32) (w : sm_Mem), sm_Sim E (mi_de_become) 10 [some (.ref a0), some (.ref a1), some (.int a2)] [] w (self10 a0 a1 a2 w)) (a0 : Nat) (a1 : Nat) (a2 : Int32) (w : sm_Mem) : sm_Sim E (mi_de_become) 10 [some (.ref a0), some (.ref a1), some (.int a2)] [] w (ff_de_become_10_b  self10 a0 a1 a2 w) := by
  unfold ff_de_become_10_b
  refine sm_iload_n ii_de_become_10 rfl ?_
  refine sm_aload_n ii_de_become_11 rfl ?_
  refine sm_getIs ii_de_become_12 fl_de_21 (fun x1 => ?_)
  refine sm_icmp_ge 60 ii_de_become_15 (by decide) ?_ ?_
  · exact sm_vret ii_de_become_60 rfl
  · refine sm_aload_n ii_de_become_18 rfl ?_
    refine sm_getRs ii_de_become_19 fl_de_9 (fun r2 => ?_)
    refine sm_iload_n ii_de_become_22 rfl ?_
    refine sm_aload_n ii_de_become_23 rfl ?_
    refine sm_getRs ii_de_become_24 fl_de_9 (fun r3 => ?_)
    refine sm_iload_n ii_de_become_27 rfl ?_
    refine sm_ialds ii_de_become_28 (fun x4 => ?_)
    refine sm_iasts ii_de_become_29 (fun w5 => ?_)
    refine sm_aload_n ii_de_become_30 rfl ?_
    refine sm_getRs ii_de_become_31 fl_de_15 (fun r6 => ?_)
    refine sm_iload_n ii_de_become_34 rfl ?_
    refine sm_aload_n ii_de_become_35 rfl ?_
    refine sm_getRs ii_de_become_36 fl_de_15 (fun r7 => ?_)
    refine sm_iload_n ii_de_become_39 rfl ?_
    refine sm_ialds ii_de_become_40 (fun x8 => ?_)
    refine sm_iasts ii_de_become_41 (fun w9 => ?_)
    refine sm_aload_n ii_de_become_42 rfl ?_
    refine sm_getRs ii_de_become_43 fl_de_18 (fun r10 => ?_)
    refine sm_iload_n ii_de_become_46 rfl ?_
    refine sm_aload_n ii_de_become_47 rfl ?_
    refine sm_getRs ii_de_become_48 fl_de_18 (fun r11 => ?_)
    refine sm_iload_n ii_de_become_51 rfl ?_
    refine sm_ialds ii_de_become_52 (fun x12 => ?_)
    refine sm_iasts ii_de_become_53 (fun w13 => ?_)
    refine sm_iinc (a2 + (1 : Int32)) [some (.ref a0), some (.ref a1), some (.int (a2 + (1 : Int32)))] ii_de_become_54 rfl rfl rfl rfl ?_
    refine sm_goto 10 ii_de_become_57 (by decide) ?_
    exact hself10 (a0) (a1) ((a2 + (1 : Int32))) w13
set_option maxHeartbeats 4000000 in
set_option maxRecDepth 100000 in
theorem ss_de_become_10_f {E : Nat × (Nat → Int32)}  : ∀ (n : Nat) (a0 : Nat) (a1 : Nat) (a2 : Int32) (w : sm_Mem), sm_Sim E (mi_de_become) 10 [some (.ref a0), some (.ref a1), some (.int a2)] [] w (ff_de_become_10_f  n a0 a1 a2 w)
  | 0, _, _, _, _ => fun _ _ h => by cases h
  | n + 1, a0, a1, a2, w => ss_de_become_10_b  _ (ss_de_become_10_f  n) a0 a1 a2 w
set_option maxHeartbeats 4000000 in
set_option maxRecDepth 100000 in
theorem ss_de_become_10 {E : Nat × (Nat → Int32)}  (a0 : Nat) (a1 : Nat) (a2 : Int32) (w : sm_Mem) : sm_Sim E (mi_de_become) 10 [some (.ref a0), some (.ref a1), some (.int a2)] [] w (ff_de_become_10  a0 a1 a2 w) := ss_de_become_10_f  sm_N a0 a1 a2 w
noncomputable def ff_de_become  (a0 : Nat) (a1 : Nat) (w : sm_Mem) : sm_R := (Option.bind (sm_gI w a1 0 3) fun x14 => (Option.bind (sm_pI w a0 0 3 x14) fun w15 => ff_de_become_10 (a0) (a1) ((0 : Int32)) w15))
set_option maxHeartbeats 4000000 in
set_option maxRecDepth 100000 in
theorem ss_de_become_0 {E : Nat × (Nat → Int32)}  (a0 : Nat) (a1 : Nat) (w : sm_Mem) : sm_Sim E (mi_de_become) 0 [some (.ref a0), some (.ref a1), none] [] w (ff_de_become  a0 a1 w) := by
  unfold ff_de_become
  refine sm_aload_n ii_de_become_0 rfl ?_
  refine sm_aload_n ii_de_become_1 rfl ?_
  refine sm_getIs ii_de_become_2 fl_de_21 (fun x14 => ?_)
  refine sm_putIs ii_de_become_5 fp_de_21 (fun w15 => ?_)
  refine sm_iconst (0 : Int32) ii_de_become_8 (by decide) ?_
  refine sm_istore_n [some (.ref a0), some (.ref a1), some (.int (0 : Int32))] ii_de_become_9 rfl rfl ?_
  exact ss_de_become_10 (a0) (a1) ((0 : Int32)) w15
set_option maxHeartbeats 4000000 in
set_option maxRecDepth 100000 in
theorem mc_de_become {E : Nat × (Nat → Int32)} (a0 : Nat) (a1 : Nat) (w : sm_Mem) : sm_MC E mi_de_become [.ref a0, .ref a1] w (ff_de_become a0 a1 w) := sm_MC_of E (by decide +kernel) rfl (Nat.le_of_ble_eq_true rfl) (ss_de_become_0 a0 a1 w)
abbrev mi_ho_keep : sm_MI := (⟨"HerOrders", "keep", "(I)I"⟩, prog_1_method_19_code, 2, (some .int), 2)
set_option maxRecDepth 100000 in
theorem mf_ho_keep : sm_MF mi_ho_keep 1 := ⟨List.mem_of_getElem? (i := 461) (by decide +kernel), List.mem_of_getElem? (i := 69) (by decide +kernel), ⟨by decide, by decide⟩, by decide +kernel⟩
set_option maxRecDepth 100000 in
theorem mv_ho_keep : sm_MFV mi_ho_keep := ⟨List.mem_of_getElem? (i := 459) (by decide +kernel), List.mem_of_getElem? (i := 460) (by decide +kernel)⟩
set_option maxRecDepth 100000 in
theorem ii_ho_keep_0 : sm_D prog_1_method_19_code 0 1 1 (.iload_n 1) := ⟨by decide +kernel, rfl⟩
set_option maxRecDepth 100000 in
theorem ii_ho_keep_1 : sm_D prog_1_method_19_code 1 1 2 (.iconst 3) := ⟨by decide +kernel, rfl⟩
set_option maxRecDepth 100000 in
theorem ii_ho_keep_2 : sm_D prog_1_method_19_code 2 3 5 (.invokestatic 81) := ⟨by decide +kernel, rfl⟩
set_option maxRecDepth 100000 in
theorem ii_ho_keep_5 : sm_D prog_1_method_19_code 5 3 8 (.ifCond .ne 5) := ⟨by decide +kernel, rfl⟩
set_option maxRecDepth 100000 in
theorem ii_ho_keep_8 : sm_D prog_1_method_19_code 8 1 9 (.iconst (-1)) := ⟨by decide +kernel, rfl⟩
set_option maxRecDepth 100000 in
theorem ii_ho_keep_9 : sm_D prog_1_method_19_code 9 1 10 (.ireturn) := ⟨by decide +kernel, rfl⟩
set_option maxRecDepth 100000 in
theorem ii_ho_keep_10 : sm_D prog_1_method_19_code 10 1 11 (.aload_n 0) := ⟨by decide +kernel, rfl⟩
set_option maxRecDepth 100000 in
theorem ii_ho_keep_11 : sm_D prog_1_method_19_code 11 3 14 (.getfield 31) := ⟨by decide +kernel, rfl⟩
set_option maxRecDepth 100000 in
theorem ii_ho_keep_14 : sm_D prog_1_method_19_code 14 3 17 (.getfield 115) := ⟨by decide +kernel, rfl⟩
set_option maxRecDepth 100000 in
theorem ii_ho_keep_17 : sm_D prog_1_method_19_code 17 3 20 (.ifCond .ne 6) := ⟨by decide +kernel, rfl⟩
set_option maxRecDepth 100000 in
theorem ii_ho_keep_20 : sm_D prog_1_method_19_code 20 2 22 (.bipush (-4)) := ⟨by decide +kernel, rfl⟩
set_option maxRecDepth 100000 in
theorem ii_ho_keep_22 : sm_D prog_1_method_19_code 22 1 23 (.ireturn) := ⟨by decide +kernel, rfl⟩
set_option maxRecDepth 100000 in
theorem ii_ho_keep_23 : sm_D prog_1_method_19_code 23 1 24 (.aload_n 0) := ⟨by decide +kernel, rfl⟩
set_option maxRecDepth 100000 in
theorem ii_ho_keep_24 : sm_D prog_1_method_19_code 24 3 27 (.getfield 23) := ⟨by decide +kernel, rfl⟩
set_option maxRecDepth 100000 in
theorem ii_ho_keep_27 : sm_D prog_1_method_19_code 27 1 28 (.iload_n 1) := ⟨by decide +kernel, rfl⟩
set_option maxRecDepth 100000 in
theorem ii_ho_keep_28 : sm_D prog_1_method_19_code 28 1 29 (.aaload) := ⟨by decide +kernel, rfl⟩
set_option maxRecDepth 100000 in
theorem ii_ho_keep_29 : sm_D prog_1_method_19_code 29 1 30 (.aload_n 0) := ⟨by decide +kernel, rfl⟩
set_option maxRecDepth 100000 in
theorem ii_ho_keep_30 : sm_D prog_1_method_19_code 30 3 33 (.getfield 31) := ⟨by decide +kernel, rfl⟩
set_option maxRecDepth 100000 in
theorem ii_ho_keep_33 : sm_D prog_1_method_19_code 33 3 36 (.getfield 171) := ⟨by decide +kernel, rfl⟩
set_option maxRecDepth 100000 in
theorem ii_ho_keep_36 : sm_D prog_1_method_19_code 36 3 39 (.invokevirtual 178) := ⟨by decide +kernel, rfl⟩
set_option maxRecDepth 100000 in
theorem ii_ho_keep_39 : sm_D prog_1_method_19_code 39 1 40 (.aload_n 0) := ⟨by decide +kernel, rfl⟩
set_option maxRecDepth 100000 in
theorem ii_ho_keep_40 : sm_D prog_1_method_19_code 40 3 43 (.getfield 23) := ⟨by decide +kernel, rfl⟩
set_option maxRecDepth 100000 in
theorem ii_ho_keep_43 : sm_D prog_1_method_19_code 43 1 44 (.iload_n 1) := ⟨by decide +kernel, rfl⟩
set_option maxRecDepth 100000 in
theorem ii_ho_keep_44 : sm_D prog_1_method_19_code 44 1 45 (.aaload) := ⟨by decide +kernel, rfl⟩
set_option maxRecDepth 100000 in
theorem ii_ho_keep_45 : sm_D prog_1_method_19_code 45 3 48 (.getfield 114) := ⟨by decide +kernel, rfl⟩
set_option maxRecDepth 100000 in
theorem ii_ho_keep_48 : sm_D prog_1_method_19_code 48 1 49 (.ireturn) := ⟨by decide +kernel, rfl⟩
noncomputable def ff_ho_keep  (a1 : Int32) (w : sm_Mem) : sm_R := (sm_cI (ff_ho_isWithin (a1) ((3 : Int32)) w) fun x1 w2 => (if x1 = (0 : Int32) then (some (.int (-1 : Int32), w2)) else (if (w2.1 36 0) = (0 : Int32) then (some (.int (-4 : Int32), w2)) else (Option.bind (sm_rr 23 a1) fun r3 => (sm_cV (sm_rc r3 0 (ff_de_become (r3) (45) w2)) fun w5 => (Option.bind (sm_rr 23 a1) fun r6 => (Option.bind (sm_gI w5 r6 0 3) fun x7 => (some (.int x7, w5)))))))))
set_option maxHeartbeats 4000000 in
set_option maxRecDepth 100000 in
theorem ss_ho_keep_0 {E : Nat × (Nat → Int32)}  (a1 : Int32) (w : sm_Mem) : sm_Sim E (mi_ho_keep) 0 [some (.ref 0), some (.int a1)] [] w (ff_ho_keep  a1 w) := by
  unfold ff_ho_keep
  refine sm_iload_n ii_ho_keep_0 rfl ?_
  refine sm_iconst (3 : Int32) ii_ho_keep_1 (by decide) ?_
  refine sm_csI [.int a1, .int (3 : Int32)] [] rfl ii_ho_keep_2 ml_ho_81 (mf_ho_isWithin) (mv_ho_isWithin) (Nat.le_of_ble_eq_true rfl) rfl rfl rfl (mc_ho_isWithin (a1) ((3 : Int32)) w) (fun x1 w2 => ?_)
  refine sm_if_ne 10 ii_ho_keep_5 (by decide) ?_ ?_
  · refine sm_iconst (-1 : Int32) ii_ho_keep_8 (by decide) ?_
    exact sm_iret ii_ho_keep_9 rfl
  · refine sm_aload_n ii_ho_keep_10 rfl ?_
    refine sm_getR 36 ii_ho_keep_11 fl_ho_31 (k := 0) rfl ?_
    refine sm_getI ii_ho_keep_14 fl_ho_115 (k := 36) rfl ?_
    refine sm_if_ne 23 ii_ho_keep_17 (by decide) ?_ ?_
    · refine sm_bipush (-4 : Int32) ii_ho_keep_20 (by decide) ?_
      exact sm_iret ii_ho_keep_22 rfl
    · refine sm_aload_n ii_ho_keep_23 rfl ?_
      refine sm_getR 23 ii_ho_keep_24 fl_ho_23 (k := 0) rfl ?_
      refine sm_iload_n ii_ho_keep_27 rfl ?_
      refine sm_aald ii_ho_keep_28 (fun r3 => ?_)
      refine sm_aload_n ii_ho_keep_29 rfl ?_
      refine sm_getR 36 ii_ho_keep_30 fl_ho_31 (k := 0) rfl ?_
      refine sm_getR 45 ii_ho_keep_33 fl_ho_171 (k := 36) rfl ?_
      refine sm_dvV [.ref 45] [] rfl ii_ho_keep_36 ml_ho_178 (mf_de_become) (mv_de_become) (Nat.le_of_ble_eq_true rfl) rfl 0 rfl rfl rfl (mc_de_become (r3) (45) w2) (fun w5 => ?_)
      refine sm_aload_n ii_ho_keep_39 rfl ?_
      refine sm_getR 23 ii_ho_keep_40 fl_ho_23 (k := 0) rfl ?_
      refine sm_iload_n ii_ho_keep_43 rfl ?_
      refine sm_aald ii_ho_keep_44 (fun r6 => ?_)
      refine sm_getIs ii_ho_keep_45 fl_ho_114 (fun x7 => ?_)
      exact sm_iret ii_ho_keep_48 rfl
set_option maxHeartbeats 4000000 in
set_option maxRecDepth 100000 in
theorem mc_ho_keep {E : Nat × (Nat → Int32)} (a1 : Int32) (w : sm_Mem) : sm_MC E mi_ho_keep [.ref 0, .int a1] w (ff_ho_keep a1 w) := sm_MC_of E (by decide +kernel) rfl (Nat.le_of_ble_eq_true rfl) (ss_ho_keep_0 a1 w)
abbrev mi_la_lastWord : sm_MI := (⟨"HerOrdersLaw", "lastWord", "([I)I"⟩, method_8_code, 1, (some .int), 1)
set_option maxRecDepth 100000 in
theorem mf_la_lastWord : sm_MF mi_la_lastWord 1 := ⟨List.mem_of_getElem? (i := 849) (by decide +kernel), List.mem_of_getElem? (i := 68) (by decide +kernel), ⟨by decide, by decide⟩, by decide +kernel⟩
set_option maxRecDepth 100000 in
theorem mv_la_lastWord : sm_MFS mi_la_lastWord := List.mem_of_getElem? (i := 848) (by decide +kernel)
set_option maxRecDepth 100000 in
theorem ii_la_lastWord_0 : sm_D method_8_code 0 1 1 (.aload_n 0) := ⟨by decide +kernel, rfl⟩
set_option maxRecDepth 100000 in
theorem ii_la_lastWord_1 : sm_D method_8_code 1 1 2 (.iconst 1) := ⟨by decide +kernel, rfl⟩
set_option maxRecDepth 100000 in
theorem ii_la_lastWord_2 : sm_D method_8_code 2 1 3 (.iaload) := ⟨by decide +kernel, rfl⟩
set_option maxRecDepth 100000 in
theorem ii_la_lastWord_3 : sm_D method_8_code 3 3 6 (.ifCond .ne 8) := ⟨by decide +kernel, rfl⟩
set_option maxRecDepth 100000 in
theorem ii_la_lastWord_6 : sm_D method_8_code 6 2 8 (.bipush (-9)) := ⟨by decide +kernel, rfl⟩
set_option maxRecDepth 100000 in
theorem ii_la_lastWord_8 : sm_D method_8_code 8 3 11 (.goto 10) := ⟨by decide +kernel, rfl⟩
set_option maxRecDepth 100000 in
theorem ii_la_lastWord_11 : sm_D method_8_code 11 1 12 (.aload_n 0) := ⟨by decide +kernel, rfl⟩
set_option maxRecDepth 100000 in
theorem ii_la_lastWord_12 : sm_D method_8_code 12 1 13 (.iconst 2) := ⟨by decide +kernel, rfl⟩
set_option maxRecDepth 100000 in
theorem ii_la_lastWord_13 : sm_D method_8_code 13 1 14 (.aload_n 0) := ⟨by decide +kernel, rfl⟩
set_option maxRecDepth 100000 in
theorem ii_la_lastWord_14 : sm_D method_8_code 14 1 15 (.iconst 1) := ⟨by decide +kernel, rfl⟩
set_option maxRecDepth 100000 in
theorem ii_la_lastWord_15 : sm_D method_8_code 15 1 16 (.iaload) := ⟨by decide +kernel, rfl⟩
set_option maxRecDepth 100000 in
theorem ii_la_lastWord_16 : sm_D method_8_code 16 1 17 (.iadd) := ⟨by decide +kernel, rfl⟩
set_option maxRecDepth 100000 in
theorem ii_la_lastWord_17 : sm_D method_8_code 17 1 18 (.iaload) := ⟨by decide +kernel, rfl⟩
set_option maxRecDepth 100000 in
theorem ii_la_lastWord_18 : sm_D method_8_code 18 1 19 (.ireturn) := ⟨by decide +kernel, rfl⟩
noncomputable def ff_la_lastWord   (w : sm_Mem) : sm_R := (Option.bind (sm_rd w 63 31 (1 : Int32)) fun x1 => (if x1 = (0 : Int32) then (some (.int (-9 : Int32), w)) else (Option.bind (sm_rd w 63 31 (1 : Int32)) fun x2 => (Option.bind (sm_rd w 63 31 ((2 : Int32) + x2)) fun x3 => (some (.int x3, w))))))
set_option maxHeartbeats 4000000 in
set_option maxRecDepth 100000 in
theorem ss_la_lastWord_0 {E : Nat × (Nat → Int32)}   (w : sm_Mem) : sm_Sim E (mi_la_lastWord) 0 [some (.ref 63)] [] w (ff_la_lastWord   w) := by
  unfold ff_la_lastWord
  refine sm_aload_n ii_la_lastWord_0 rfl ?_
  refine sm_iconst (1 : Int32) ii_la_lastWord_1 (by decide) ?_
  refine sm_iald ii_la_lastWord_2 (k := 63) rfl (fun x1 => ?_)
  refine sm_if_ne 11 ii_la_lastWord_3 (by decide) ?_ ?_
  · refine sm_bipush (-9 : Int32) ii_la_lastWord_6 (by decide) ?_
    refine sm_goto 18 ii_la_lastWord_8 (by decide) ?_
    exact sm_iret ii_la_lastWord_18 rfl
  · refine sm_aload_n ii_la_lastWord_11 rfl ?_
    refine sm_iconst (2 : Int32) ii_la_lastWord_12 (by decide) ?_
    refine sm_aload_n ii_la_lastWord_13 rfl ?_
    refine sm_iconst (1 : Int32) ii_la_lastWord_14 (by decide) ?_
    refine sm_iald ii_la_lastWord_15 (k := 63) rfl (fun x2 => ?_)
    refine sm_iadd ii_la_lastWord_16 ?_
    refine sm_iald ii_la_lastWord_17 (k := 63) rfl (fun x3 => ?_)
    exact sm_iret ii_la_lastWord_18 rfl
set_option maxHeartbeats 4000000 in
set_option maxRecDepth 100000 in
theorem mc_la_lastWord {E : Nat × (Nat → Int32)}  (w : sm_Mem) : sm_MC E mi_la_lastWord [.ref 63] w (ff_la_lastWord  w) := sm_MC_of E (by decide +kernel) rfl (Nat.le_of_ble_eq_true rfl) (ss_la_lastWord_0  w)
abbrev mi_la_able : sm_MI := (⟨"HerOrdersLaw", "able", "(IIIII)Z"⟩, method_7_code, 5, (some .boolean), 1)
set_option maxRecDepth 100000 in
theorem mf_la_able : sm_MF mi_la_able 5 := ⟨List.mem_of_getElem? (i := 840) (by decide +kernel), List.mem_of_getElem? (i := 68) (by decide +kernel), ⟨by decide, by decide⟩, by decide +kernel⟩
set_option maxRecDepth 100000 in
theorem mv_la_able : sm_MFS mi_la_able := List.mem_of_getElem? (i := 839) (by decide +kernel)
set_option maxRecDepth 100000 in
theorem ii_la_able_0 : sm_D method_7_code 0 1 1 (.iload_n 0) := ⟨by decide +kernel, rfl⟩
set_option maxRecDepth 100000 in
theorem ii_la_able_1 : sm_D method_7_code 1 1 2 (.iconst 1) := ⟨by decide +kernel, rfl⟩
set_option maxRecDepth 100000 in
theorem ii_la_able_2 : sm_D method_7_code 2 3 5 (.if_icmp .eq 8) := ⟨by decide +kernel, rfl⟩
set_option maxRecDepth 100000 in
theorem ii_la_able_5 : sm_D method_7_code 5 1 6 (.iload_n 0) := ⟨by decide +kernel, rfl⟩
set_option maxRecDepth 100000 in
theorem ii_la_able_6 : sm_D method_7_code 6 1 7 (.iconst 5) := ⟨by decide +kernel, rfl⟩
set_option maxRecDepth 100000 in
theorem ii_la_able_7 : sm_D method_7_code 7 3 10 (.if_icmp .ne 8) := ⟨by decide +kernel, rfl⟩
set_option maxRecDepth 100000 in
theorem ii_la_able_10 : sm_D method_7_code 10 1 11 (.iload_n 3) := ⟨by decide +kernel, rfl⟩
set_option maxRecDepth 100000 in
theorem ii_la_able_11 : sm_D method_7_code 11 1 12 (.iload_n 2) := ⟨by decide +kernel, rfl⟩
set_option maxRecDepth 100000 in
theorem ii_la_able_12 : sm_D method_7_code 12 3 15 (.if_icmp .eq 28) := ⟨by decide +kernel, rfl⟩
set_option maxRecDepth 100000 in
theorem ii_la_able_15 : sm_D method_7_code 15 1 16 (.iload_n 0) := ⟨by decide +kernel, rfl⟩
set_option maxRecDepth 100000 in
theorem ii_la_able_16 : sm_D method_7_code 16 1 17 (.iconst 5) := ⟨by decide +kernel, rfl⟩
set_option maxRecDepth 100000 in
theorem ii_la_able_17 : sm_D method_7_code 17 3 20 (.if_icmp .ne 25) := ⟨by decide +kernel, rfl⟩
set_option maxRecDepth 100000 in
theorem ii_la_able_20 : sm_D method_7_code 20 1 21 (.iload_n 2) := ⟨by decide +kernel, rfl⟩
set_option maxRecDepth 100000 in
theorem ii_la_able_21 : sm_D method_7_code 21 3 24 (.ifCond .lt 21) := ⟨by decide +kernel, rfl⟩
set_option maxRecDepth 100000 in
theorem ii_la_able_24 : sm_D method_7_code 24 1 25 (.iload_n 3) := ⟨by decide +kernel, rfl⟩
set_option maxRecDepth 100000 in
theorem ii_la_able_25 : sm_D method_7_code 25 1 26 (.iload_n 2) := ⟨by decide +kernel, rfl⟩
set_option maxRecDepth 100000 in
theorem ii_la_able_26 : sm_D method_7_code 26 1 27 (.iconst 5) := ⟨by decide +kernel, rfl⟩
set_option maxRecDepth 100000 in
theorem ii_la_able_27 : sm_D method_7_code 27 3 30 (.if_icmp .ne 7) := ⟨by decide +kernel, rfl⟩
set_option maxRecDepth 100000 in
theorem ii_la_able_30 : sm_D method_7_code 30 1 31 (.iconst 0) := ⟨by decide +kernel, rfl⟩
set_option maxRecDepth 100000 in
theorem ii_la_able_31 : sm_D method_7_code 31 3 34 (.goto 6) := ⟨by decide +kernel, rfl⟩
set_option maxRecDepth 100000 in
theorem ii_la_able_34 : sm_D method_7_code 34 1 35 (.iload_n 2) := ⟨by decide +kernel, rfl⟩
set_option maxRecDepth 100000 in
theorem ii_la_able_35 : sm_D method_7_code 35 1 36 (.iconst 1) := ⟨by decide +kernel, rfl⟩
set_option maxRecDepth 100000 in
theorem ii_la_able_36 : sm_D method_7_code 36 1 37 (.iadd) := ⟨by decide +kernel, rfl⟩
set_option maxRecDepth 100000 in
theorem ii_la_able_37 : sm_D method_7_code 37 3 40 (.if_icmp .ne 5) := ⟨by decide +kernel, rfl⟩
set_option maxRecDepth 100000 in
theorem ii_la_able_40 : sm_D method_7_code 40 1 41 (.iconst 1) := ⟨by decide +kernel, rfl⟩
set_option maxRecDepth 100000 in
theorem ii_la_able_41 : sm_D method_7_code 41 1 42 (.ireturn) := ⟨by decide +kernel, rfl⟩
set_option maxRecDepth 100000 in
theorem ii_la_able_42 : sm_D method_7_code 42 1 43 (.iload_n 1) := ⟨by decide +kernel, rfl⟩
set_option maxRecDepth 100000 in
theorem ii_la_able_43 : sm_D method_7_code 43 1 44 (.iload_n 3) := ⟨by decide +kernel, rfl⟩
set_option maxRecDepth 100000 in
theorem ii_la_able_44 : sm_D method_7_code 44 1 45 (.ishr) := ⟨by decide +kernel, rfl⟩
set_option maxRecDepth 100000 in
theorem ii_la_able_45 : sm_D method_7_code 45 1 46 (.iconst 1) := ⟨by decide +kernel, rfl⟩
set_option maxRecDepth 100000 in
theorem ii_la_able_46 : sm_D method_7_code 46 1 47 (.iand) := ⟨by decide +kernel, rfl⟩
set_option maxRecDepth 100000 in
theorem ii_la_able_47 : sm_D method_7_code 47 3 50 (.ifCond .ne 5) := ⟨by decide +kernel, rfl⟩
set_option maxRecDepth 100000 in
theorem ii_la_able_50 : sm_D method_7_code 50 1 51 (.iconst 0) := ⟨by decide +kernel, rfl⟩
set_option maxRecDepth 100000 in
theorem ii_la_able_51 : sm_D method_7_code 51 1 52 (.ireturn) := ⟨by decide +kernel, rfl⟩
set_option maxRecDepth 100000 in
theorem ii_la_able_52 : sm_D method_7_code 52 1 53 (.iload_n 0) := ⟨by decide +kernel, rfl⟩
set_option maxRecDepth 100000 in
theorem ii_la_able_53 : sm_D method_7_code 53 1 54 (.iconst 2) := ⟨by decide +kernel, rfl⟩
set_option maxRecDepth 100000 in
theorem ii_la_able_54 : sm_D method_7_code 54 3 57 (.if_icmp .ne 18) := ⟨by decide +kernel, rfl⟩
set_option maxRecDepth 100000 in
theorem ii_la_able_57 : sm_D method_7_code 57 2 59 (.iload 4) := ⟨by decide +kernel, rfl⟩
set_option maxRecDepth 100000 in
theorem ii_la_able_59 : sm_D method_7_code 59 1 60 (.iconst 1) := ⟨by decide +kernel, rfl⟩
set_option maxRecDepth 100000 in
theorem ii_la_able_60 : sm_D method_7_code 60 1 61 (.iand) := ⟨by decide +kernel, rfl⟩
set_option maxRecDepth 100000 in
theorem ii_la_able_61 : sm_D method_7_code 61 3 64 (.ifCond .ne 7) := ⟨by decide +kernel, rfl⟩
set_option maxRecDepth 100000 in
theorem ii_la_able_64 : sm_D method_7_code 64 1 65 (.iconst 1) := ⟨by decide +kernel, rfl⟩
set_option maxRecDepth 100000 in
theorem ii_la_able_65 : sm_D method_7_code 65 3 68 (.goto 45) := ⟨by decide +kernel, rfl⟩
set_option maxRecDepth 100000 in
theorem ii_la_able_68 : sm_D method_7_code 68 1 69 (.iconst 0) := ⟨by decide +kernel, rfl⟩
set_option maxRecDepth 100000 in
theorem ii_la_able_69 : sm_D method_7_code 69 3 72 (.goto 41) := ⟨by decide +kernel, rfl⟩
set_option maxRecDepth 100000 in
theorem ii_la_able_72 : sm_D method_7_code 72 1 73 (.iload_n 0) := ⟨by decide +kernel, rfl⟩
set_option maxRecDepth 100000 in
theorem ii_la_able_73 : sm_D method_7_code 73 1 74 (.iconst 3) := ⟨by decide +kernel, rfl⟩
set_option maxRecDepth 100000 in
theorem ii_la_able_74 : sm_D method_7_code 74 3 77 (.if_icmp .ne 15) := ⟨by decide +kernel, rfl⟩
set_option maxRecDepth 100000 in
theorem ii_la_able_77 : sm_D method_7_code 77 1 78 (.iload_n 2) := ⟨by decide +kernel, rfl⟩
set_option maxRecDepth 100000 in
theorem ii_la_able_78 : sm_D method_7_code 78 3 81 (.ifCond .lt 7) := ⟨by decide +kernel, rfl⟩
set_option maxRecDepth 100000 in
theorem ii_la_able_81 : sm_D method_7_code 81 1 82 (.iconst 1) := ⟨by decide +kernel, rfl⟩
set_option maxRecDepth 100000 in
theorem ii_la_able_82 : sm_D method_7_code 82 3 85 (.goto 28) := ⟨by decide +kernel, rfl⟩
set_option maxRecDepth 100000 in
theorem ii_la_able_85 : sm_D method_7_code 85 1 86 (.iconst 0) := ⟨by decide +kernel, rfl⟩
set_option maxRecDepth 100000 in
theorem ii_la_able_86 : sm_D method_7_code 86 3 89 (.goto 24) := ⟨by decide +kernel, rfl⟩
set_option maxRecDepth 100000 in
theorem ii_la_able_89 : sm_D method_7_code 89 1 90 (.iload_n 0) := ⟨by decide +kernel, rfl⟩
set_option maxRecDepth 100000 in
theorem ii_la_able_90 : sm_D method_7_code 90 1 91 (.iconst 4) := ⟨by decide +kernel, rfl⟩
set_option maxRecDepth 100000 in
theorem ii_la_able_91 : sm_D method_7_code 91 3 94 (.if_icmp .ne 14) := ⟨by decide +kernel, rfl⟩
set_option maxRecDepth 100000 in
theorem ii_la_able_94 : sm_D method_7_code 94 1 95 (.iload_n 2) := ⟨by decide +kernel, rfl⟩
set_option maxRecDepth 100000 in
theorem ii_la_able_95 : sm_D method_7_code 95 3 98 (.ifCond .lt 14) := ⟨by decide +kernel, rfl⟩
set_option maxRecDepth 100000 in
theorem ii_la_able_98 : sm_D method_7_code 98 1 99 (.iload_n 3) := ⟨by decide +kernel, rfl⟩
set_option maxRecDepth 100000 in
theorem ii_la_able_99 : sm_D method_7_code 99 1 100 (.iconst 1) := ⟨by decide +kernel, rfl⟩
set_option maxRecDepth 100000 in
theorem ii_la_able_100 : sm_D method_7_code 100 1 101 (.iand) := ⟨by decide +kernel, rfl⟩
set_option maxRecDepth 100000 in
theorem ii_la_able_101 : sm_D method_7_code 101 1 102 (.iconst 1) := ⟨by decide +kernel, rfl⟩
set_option maxRecDepth 100000 in
theorem ii_la_able_102 : sm_D method_7_code 102 3 105 (.if_icmp .ne 7) := ⟨by decide +kernel, rfl⟩
set_option maxRecDepth 100000 in
theorem ii_la_able_105 : sm_D method_7_code 105 1 106 (.iconst 1) := ⟨by decide +kernel, rfl⟩
set_option maxRecDepth 100000 in
theorem ii_la_able_106 : sm_D method_7_code 106 3 109 (.goto 4) := ⟨by decide +kernel, rfl⟩
set_option maxRecDepth 100000 in
theorem ii_la_able_109 : sm_D method_7_code 109 1 110 (.iconst 0) := ⟨by decide +kernel, rfl⟩
set_option maxRecDepth 100000 in
theorem ii_la_able_110 : sm_D method_7_code 110 1 111 (.ireturn) := ⟨by decide +kernel, rfl⟩
noncomputable def ff_la_able_42  (a0 : Int32) (a1 : Int32) (a2 : Int32) (a3 : Int32) (a4 : Int32) (w : sm_Mem) : sm_R := (if ((a1 >>> (a3 &&& (31 : Int32))) &&& (1 : Int32)) = (0 : Int32) then (some (.int (0 : Int32), w)) else (if a0 = (2 : Int32) then (if (a4 &&& (1 : Int32)) = (0 : Int32) then (some (.int (1 : Int32), w)) else (some (.int (0 : Int32), w))) else (if a0 = (3 : Int32) then (if a2 < (0 : Int32) then (some (.int (0 : Int32), w)) else (some (.int (1 : Int32), w))) else (if a0 = (4 : Int32) then (if a2 < (0 : Int32) then (some (.int (0 : Int32), w)) else (if (a3 &&& (1 : Int32)) = (1 : Int32) then (some (.int (1 : Int32), w)) else (some (.int (0 : Int32), w)))) else (some (.int (1 : Int32), w))))))
set_option maxHeartbeats 4000000 in
set_option maxRecDepth 100000 in
theorem ss_la_able_42 {E : Nat × (Nat → Int32)}  (a0 : Int32) (a1 : Int32) (a2 : Int32) (a3 : Int32) (a4 : Int32) (w : sm_Mem) : sm_Sim E (mi_la_able) 42 [some (.int a0), some (.int a1), some (.int a2), some (.int a3), some (.int a4)] [] w (ff_la_able_42  a0 a1 a2 a3 a4 w) := by
  unfold ff_la_able_42
  refine sm_iload_n ii_la_able_42 rfl ?_
  refine sm_iload_n ii_la_able_43 rfl ?_
  refine sm_ishr ii_la_able_44 ?_
  refine sm_iconst (1 : Int32) ii_la_able_45 (by decide) ?_
  refine sm_iand ii_la_able_46 ?_
  refine sm_if_ne 52 ii_la_able_47 (by decide) ?_ ?_
  · refine sm_iconst (0 : Int32) ii_la_able_50 (by decide) ?_
    exact sm_zret1 ii_la_able_51 rfl (by decide)
  · refine sm_iload_n ii_la_able_52 rfl ?_
    refine sm_iconst (2 : Int32) ii_la_able_53 (by decide) ?_
    refine sm_icmp_ne 72 ii_la_able_54 (by decide) ?_ ?_
    · refine sm_iload ii_la_able_57 rfl ?_
      refine sm_iconst (1 : Int32) ii_la_able_59 (by decide) ?_
      refine sm_iand ii_la_able_60 ?_
      refine sm_if_ne 68 ii_la_able_61 (by decide) ?_ ?_
      · refine sm_iconst (1 : Int32) ii_la_able_64 (by decide) ?_
        refine sm_goto 110 ii_la_able_65 (by decide) ?_
        exact sm_zret1 ii_la_able_110 rfl (by decide)
      · refine sm_iconst (0 : Int32) ii_la_able_68 (by decide) ?_
        refine sm_goto 110 ii_la_able_69 (by decide) ?_
        exact sm_zret1 ii_la_able_110 rfl (by decide)
    · refine sm_iload_n ii_la_able_72 rfl ?_
      refine sm_iconst (3 : Int32) ii_la_able_73 (by decide) ?_
      refine sm_icmp_ne 89 ii_la_able_74 (by decide) ?_ ?_
      · refine sm_iload_n ii_la_able_77 rfl ?_
        refine sm_if_lt 85 ii_la_able_78 (by decide) ?_ ?_
        · refine sm_iconst (0 : Int32) ii_la_able_85 (by decide) ?_
          refine sm_goto 110 ii_la_able_86 (by decide) ?_
          exact sm_zret1 ii_la_able_110 rfl (by decide)
        · refine sm_iconst (1 : Int32) ii_la_able_81 (by decide) ?_
          refine sm_goto 110 ii_la_able_82 (by decide) ?_
          exact sm_zret1 ii_la_able_110 rfl (by decide)
      · refine sm_iload_n ii_la_able_89 rfl ?_
        refine sm_iconst (4 : Int32) ii_la_able_90 (by decide) ?_
        refine sm_icmp_ne 105 ii_la_able_91 (by decide) ?_ ?_
        · refine sm_iload_n ii_la_able_94 rfl ?_
          refine sm_if_lt 109 ii_la_able_95 (by decide) ?_ ?_
          · refine sm_iconst (0 : Int32) ii_la_able_109 (by decide) ?_
            exact sm_zret1 ii_la_able_110 rfl (by decide)
          · refine sm_iload_n ii_la_able_98 rfl ?_
            refine sm_iconst (1 : Int32) ii_la_able_99 (by decide) ?_
            refine sm_iand ii_la_able_100 ?_
            refine sm_iconst (1 : Int32) ii_la_able_101 (by decide) ?_
            refine sm_icmp_ne 109 ii_la_able_102 (by decide) ?_ ?_
            · refine sm_iconst (1 : Int32) ii_la_able_105 (by decide) ?_
              refine sm_goto 110 ii_la_able_106 (by decide) ?_
              exact sm_zret1 ii_la_able_110 rfl (by decide)
            · refine sm_iconst (0 : Int32) ii_la_able_109 (by decide) ?_
              exact sm_zret1 ii_la_able_110 rfl (by decide)
        · refine sm_iconst (1 : Int32) ii_la_able_105 (by decide) ?_
          refine sm_goto 110 ii_la_able_106 (by decide) ?_
          exact sm_zret1 ii_la_able_110 rfl (by decide)
noncomputable def ff_la_able_37  (a0 : Int32) (a1 : Int32) (a2 : Int32) (a3 : Int32) (a4 : Int32) (b0 : Int32) (b1 : Int32) (w : sm_Mem) : sm_R := (if b0 = b1 then (some (.int (1 : Int32), w)) else ff_la_able_42 (a0) (a1) (a2) (a3) (a4) w)
set_option maxHeartbeats 4000000 in
set_option maxRecDepth 100000 in
theorem ss_la_able_37 {E : Nat × (Nat → Int32)}  (a0 : Int32) (a1 : Int32) (a2 : Int32) (a3 : Int32) (a4 : Int32) (b0 : Int32) (b1 : Int32) (w : sm_Mem) : sm_Sim E (mi_la_able) 37 [some (.int a0), some (.int a1), some (.int a2), some (.int a3), some (.int a4)] [.int b1, .int b0] w (ff_la_able_37  a0 a1 a2 a3 a4 b0 b1 w) := by
  unfold ff_la_able_37
  refine sm_icmp_ne 42 ii_la_able_37 (by decide) ?_ ?_
  · refine sm_iconst (1 : Int32) ii_la_able_40 (by decide) ?_
    exact sm_zret1 ii_la_able_41 rfl (by decide)
  · exact ss_la_able_42 (a0) (a1) (a2) (a3) (a4) w
noncomputable def ff_la_able_15  (a0 : Int32) (a1 : Int32) (a2 : Int32) (a3 : Int32) (a4 : Int32) (w : sm_Mem) : sm_R := (if a0 = (5 : Int32) then (if a2 < (0 : Int32) then ff_la_able_42 (a0) (a1) (a2) (a3) (a4) w else (if a2 = (5 : Int32) then ff_la_able_37 (a0) (a1) (a2) (a3) (a4) (a3) ((0 : Int32)) w else ff_la_able_37 (a0) (a1) (a2) (a3) (a4) (a3) ((a2 + (1 : Int32))) w)) else ff_la_able_42 (a0) (a1) (a2) (a3) (a4) w)
set_option maxHeartbeats 4000000 in
set_option maxRecDepth 100000 in
theorem ss_la_able_15 {E : Nat × (Nat → Int32)}  (a0 : Int32) (a1 : Int32) (a2 : Int32) (a3 : Int32) (a4 : Int32) (w : sm_Mem) : sm_Sim E (mi_la_able) 15 [some (.int a0), some (.int a1), some (.int a2), some (.int a3), some (.int a4)] [] w (ff_la_able_15  a0 a1 a2 a3 a4 w) := by
  unfold ff_la_able_15
  refine sm_iload_n ii_la_able_15 rfl ?_
  refine sm_iconst (5 : Int32) ii_la_able_16 (by decide) ?_
  refine sm_icmp_ne 42 ii_la_able_17 (by decide) ?_ ?_
  · refine sm_iload_n ii_la_able_20 rfl ?_
    refine sm_if_lt 42 ii_la_able_21 (by decide) ?_ ?_
    · exact ss_la_able_42 (a0) (a1) (a2) (a3) (a4) w
    · refine sm_iload_n ii_la_able_24 rfl ?_
      refine sm_iload_n ii_la_able_25 rfl ?_
      refine sm_iconst (5 : Int32) ii_la_able_26 (by decide) ?_
      refine sm_icmp_ne 34 ii_la_able_27 (by decide) ?_ ?_
      · refine sm_iconst (0 : Int32) ii_la_able_30 (by decide) ?_
        refine sm_goto 37 ii_la_able_31 (by decide) ?_
        exact ss_la_able_37 (a0) (a1) (a2) (a3) (a4) (a3) ((0 : Int32)) w
      · refine sm_iload_n ii_la_able_34 rfl ?_
        refine sm_iconst (1 : Int32) ii_la_able_35 (by decide) ?_
        refine sm_iadd ii_la_able_36 ?_
        exact ss_la_able_37 (a0) (a1) (a2) (a3) (a4) (a3) ((a2 + (1 : Int32))) w
  · exact ss_la_able_42 (a0) (a1) (a2) (a3) (a4) w
noncomputable def ff_la_able_10  (a0 : Int32) (a1 : Int32) (a2 : Int32) (a3 : Int32) (a4 : Int32) (w : sm_Mem) : sm_R := (if a3 = a2 then (some (.int (1 : Int32), w)) else ff_la_able_15 (a0) (a1) (a2) (a3) (a4) w)
set_option maxHeartbeats 4000000 in
set_option maxRecDepth 100000 in
theorem ss_la_able_10 {E : Nat × (Nat → Int32)}  (a0 : Int32) (a1 : Int32) (a2 : Int32) (a3 : Int32) (a4 : Int32) (w : sm_Mem) : sm_Sim E (mi_la_able) 10 [some (.int a0), some (.int a1), some (.int a2), some (.int a3), some (.int a4)] [] w (ff_la_able_10  a0 a1 a2 a3 a4 w) := by
  unfold ff_la_able_10
  refine sm_iload_n ii_la_able_10 rfl ?_
  refine sm_iload_n ii_la_able_11 rfl ?_
  refine sm_icmp_eq 40 ii_la_able_12 (by decide) ?_ ?_
  · refine sm_iconst (1 : Int32) ii_la_able_40 (by decide) ?_
    exact sm_zret1 ii_la_able_41 rfl (by decide)
  · exact ss_la_able_15 (a0) (a1) (a2) (a3) (a4) w
noncomputable def ff_la_able  (a0 : Int32) (a1 : Int32) (a2 : Int32) (a3 : Int32) (a4 : Int32) (w : sm_Mem) : sm_R := (if a0 = (1 : Int32) then ff_la_able_10 (a0) (a1) (a2) (a3) (a4) w else (if a0 = (5 : Int32) then ff_la_able_10 (a0) (a1) (a2) (a3) (a4) w else ff_la_able_15 (a0) (a1) (a2) (a3) (a4) w))
set_option maxHeartbeats 4000000 in
set_option maxRecDepth 100000 in
theorem ss_la_able_0 {E : Nat × (Nat → Int32)}  (a0 : Int32) (a1 : Int32) (a2 : Int32) (a3 : Int32) (a4 : Int32) (w : sm_Mem) : sm_Sim E (mi_la_able) 0 [some (.int a0), some (.int a1), some (.int a2), some (.int a3), some (.int a4)] [] w (ff_la_able  a0 a1 a2 a3 a4 w) := by
  unfold ff_la_able
  refine sm_iload_n ii_la_able_0 rfl ?_
  refine sm_iconst (1 : Int32) ii_la_able_1 (by decide) ?_
  refine sm_icmp_eq 10 ii_la_able_2 (by decide) ?_ ?_
  · exact ss_la_able_10 (a0) (a1) (a2) (a3) (a4) w
  · refine sm_iload_n ii_la_able_5 rfl ?_
    refine sm_iconst (5 : Int32) ii_la_able_6 (by decide) ?_
    refine sm_icmp_ne 15 ii_la_able_7 (by decide) ?_ ?_
    · exact ss_la_able_10 (a0) (a1) (a2) (a3) (a4) w
    · exact ss_la_able_15 (a0) (a1) (a2) (a3) (a4) w
set_option maxHeartbeats 4000000 in
set_option maxRecDepth 100000 in
theorem mc_la_able {E : Nat × (Nat → Int32)} (a0 : Int32) (a1 : Int32) (a2 : Int32) (a3 : Int32) (a4 : Int32) (w : sm_Mem) : sm_MC E mi_la_able [.int a0, .int a1, .int a2, .int a3, .int a4] w (ff_la_able a0 a1 a2 a3 a4 w) := sm_MC_of E (by decide +kernel) rfl (Nat.le_of_ble_eq_true rfl) (ss_la_able_0 a0 a1 a2 a3 a4 w)
