/-! the program, by a program: functions of its methods and that the methods do them -/
set_option maxRecDepth 100000 in
theorem ml_ho_328 : sm_ML "HerOrders" 328 ⟨"HerOrders$Row", "isOfPairs", "()Z"⟩ := Or.inr ⟨"HerOrders", List.mem_of_getElem? (i := 746) (by decide +kernel)⟩
set_option maxRecDepth 100000 in
theorem ml_ho_240 : sm_ML "HerOrders" 240 ⟨"HerOrders", "refusalOfPairs", "(I)I"⟩ := Or.inl (List.mem_of_getElem? (i := 742) (by decide +kernel))
set_option maxRecDepth 100000 in
theorem ml_ho_243 : sm_ML "HerOrders" 243 ⟨"HerOrders$Ways", "runPairs", "(LHerOrders$Row;)V"⟩ := Or.inr ⟨"HerOrders", List.mem_of_getElem? (i := 750) (by decide +kernel)⟩
set_option maxRecDepth 100000 in
theorem fl_ho_246 : sm_FL "HerOrders" 246 5 9 := ⟨RX5, TX5, 14, rfl, by decide, rfl, sm_inX5, Or.inr ⟨"HerOrders", List.mem_of_getElem? (i := 277) (by decide +kernel)⟩⟩
set_option maxRecDepth 100000 in
theorem ml_ho_249 : sm_ML "HerOrders" 249 ⟨"HerOrders$House", "allSpeakers", "()I"⟩ := Or.inr ⟨"HerOrders", List.mem_of_getElem? (i := 758) (by decide +kernel)⟩
set_option maxRecDepth 100000 in
theorem fl_ho_252 : sm_FL "HerOrders" 252 5 11 := ⟨RX5, TX5, 14, rfl, by decide, rfl, sm_inX5, Or.inr ⟨"HerOrders", List.mem_of_getElem? (i := 280) (by decide +kernel)⟩⟩
set_option maxRecDepth 100000 in
theorem ml_ho_331 : sm_ML "HerOrders" 331 ⟨"HerOrders$Row", "isOfTriples", "()Z"⟩ := Or.inr ⟨"HerOrders", List.mem_of_getElem? (i := 770) (by decide +kernel)⟩
set_option maxRecDepth 100000 in
theorem ml_ho_352 : sm_ML "HerOrders" 352 ⟨"HerOrders$House", "isAble", "(IIII)Z"⟩ := Or.inr ⟨"HerOrders", List.mem_of_getElem? (i := 782) (by decide +kernel)⟩
set_option maxRecDepth 100000 in
theorem ml_ho_348 : sm_ML "HerOrders" 348 ⟨"HerOrders", "fits", "(IILHerOrders$Row;)Z"⟩ := Or.inl (List.mem_of_getElem? (i := 778) (by decide +kernel))
set_option maxRecDepth 100000 in
theorem ml_ho_255 : sm_ML "HerOrders" 255 ⟨"HerOrders", "refusalOfTriples", "(II)I"⟩ := Or.inl (List.mem_of_getElem? (i := 766) (by decide +kernel))
set_option maxRecDepth 100000 in
theorem ml_ho_258 : sm_ML "HerOrders" 258 ⟨"HerOrders", "kindsBy", "(ILHerOrders$Row;)I"⟩ := Or.inl (List.mem_of_getElem? (i := 774) (by decide +kernel))
set_option maxRecDepth 100000 in
theorem ml_mo_263 : sm_ML "HerOrdersModel" 263 ⟨"HerOrdersModel", "noTriples", "(I)I"⟩ := Or.inl (List.mem_of_getElem? (i := 1335) (by decide +kernel))
set_option maxRecDepth 100000 in
theorem ml_mo_266 : sm_ML "HerOrdersModel" 266 ⟨"HerOrdersModel", "kindsBy", "(II)I"⟩ := Or.inl (List.mem_of_getElem? (i := 1339) (by decide +kernel))
set_option maxRecDepth 100000 in
theorem mq_ho_356 : Cond.methodLink "HerOrders" 356 Lib.Math.max.name ∈ lw_tbl := List.mem_of_getElem? (i := 791) (by decide +kernel)
abbrev mi_rw_isOfPairs : sm_MI := (⟨"HerOrders$Row", "isOfPairs", "()Z"⟩, prog_4_method_8_code, 2, (some .boolean), 2)
set_option maxRecDepth 100000 in
theorem mf_rw_isOfPairs : sm_MF mi_rw_isOfPairs 0 := ⟨List.mem_of_getElem? (i := 749) (by decide +kernel), List.mem_of_getElem? (i := 125) (by decide +kernel), ⟨by decide, by decide⟩, by decide +kernel⟩
set_option maxRecDepth 100000 in
theorem mv_rw_isOfPairs : sm_MFV mi_rw_isOfPairs := ⟨List.mem_of_getElem? (i := 748) (by decide +kernel), List.mem_of_getElem? (i := 48) (by decide +kernel)⟩
set_option maxRecDepth 100000 in
theorem ii_rw_isOfPairs_0 : sm_D prog_4_method_8_code 0 1 1 (.iconst 0) := ⟨by decide +kernel, rfl⟩
set_option maxRecDepth 100000 in
theorem ii_rw_isOfPairs_1 : sm_D prog_4_method_8_code 1 1 2 (.istore_n 1) := ⟨by decide +kernel, rfl⟩
set_option maxRecDepth 100000 in
theorem ii_rw_isOfPairs_2 : sm_D prog_4_method_8_code 2 1 3 (.iload_n 1) := ⟨by decide +kernel, rfl⟩
set_option maxRecDepth 100000 in
theorem ii_rw_isOfPairs_3 : sm_D prog_4_method_8_code 3 1 4 (.iconst 1) := ⟨by decide +kernel, rfl⟩
set_option maxRecDepth 100000 in
theorem ii_rw_isOfPairs_4 : sm_D prog_4_method_8_code 4 1 5 (.iadd) := ⟨by decide +kernel, rfl⟩
set_option maxRecDepth 100000 in
theorem ii_rw_isOfPairs_5 : sm_D prog_4_method_8_code 5 1 6 (.aload_n 0) := ⟨by decide +kernel, rfl⟩
set_option maxRecDepth 100000 in
theorem ii_rw_isOfPairs_6 : sm_D prog_4_method_8_code 6 3 9 (.getfield 21) := ⟨by decide +kernel, rfl⟩
set_option maxRecDepth 100000 in
theorem ii_rw_isOfPairs_9 : sm_D prog_4_method_8_code 9 3 12 (.if_icmp .ge 43) := ⟨by decide +kernel, rfl⟩
set_option maxRecDepth 100000 in
theorem ii_rw_isOfPairs_12 : sm_D prog_4_method_8_code 12 1 13 (.aload_n 0) := ⟨by decide +kernel, rfl⟩
set_option maxRecDepth 100000 in
theorem ii_rw_isOfPairs_13 : sm_D prog_4_method_8_code 13 3 16 (.getfield 15) := ⟨by decide +kernel, rfl⟩
set_option maxRecDepth 100000 in
theorem ii_rw_isOfPairs_16 : sm_D prog_4_method_8_code 16 1 17 (.iload_n 1) := ⟨by decide +kernel, rfl⟩
set_option maxRecDepth 100000 in
theorem ii_rw_isOfPairs_17 : sm_D prog_4_method_8_code 17 1 18 (.iaload) := ⟨by decide +kernel, rfl⟩
set_option maxRecDepth 100000 in
theorem ii_rw_isOfPairs_18 : sm_D prog_4_method_8_code 18 2 20 (.bipush 6) := ⟨by decide +kernel, rfl⟩
set_option maxRecDepth 100000 in
theorem ii_rw_isOfPairs_20 : sm_D prog_4_method_8_code 20 3 23 (.invokestatic 32) := ⟨by decide +kernel, rfl⟩
set_option maxRecDepth 100000 in
theorem ii_rw_isOfPairs_23 : sm_D prog_4_method_8_code 23 3 26 (.ifCond .ne 5) := ⟨by decide +kernel, rfl⟩
set_option maxRecDepth 100000 in
theorem ii_rw_isOfPairs_26 : sm_D prog_4_method_8_code 26 1 27 (.iconst 0) := ⟨by decide +kernel, rfl⟩
set_option maxRecDepth 100000 in
theorem ii_rw_isOfPairs_27 : sm_D prog_4_method_8_code 27 1 28 (.ireturn) := ⟨by decide +kernel, rfl⟩
set_option maxRecDepth 100000 in
theorem ii_rw_isOfPairs_28 : sm_D prog_4_method_8_code 28 1 29 (.aload_n 0) := ⟨by decide +kernel, rfl⟩
set_option maxRecDepth 100000 in
theorem ii_rw_isOfPairs_29 : sm_D prog_4_method_8_code 29 3 32 (.getfield 15) := ⟨by decide +kernel, rfl⟩
set_option maxRecDepth 100000 in
theorem ii_rw_isOfPairs_32 : sm_D prog_4_method_8_code 32 1 33 (.iload_n 1) := ⟨by decide +kernel, rfl⟩
set_option maxRecDepth 100000 in
theorem ii_rw_isOfPairs_33 : sm_D prog_4_method_8_code 33 1 34 (.iconst 1) := ⟨by decide +kernel, rfl⟩
set_option maxRecDepth 100000 in
theorem ii_rw_isOfPairs_34 : sm_D prog_4_method_8_code 34 1 35 (.iadd) := ⟨by decide +kernel, rfl⟩
set_option maxRecDepth 100000 in
theorem ii_rw_isOfPairs_35 : sm_D prog_4_method_8_code 35 1 36 (.iaload) := ⟨by decide +kernel, rfl⟩
set_option maxRecDepth 100000 in
theorem ii_rw_isOfPairs_36 : sm_D prog_4_method_8_code 36 2 38 (.bipush 6) := ⟨by decide +kernel, rfl⟩
set_option maxRecDepth 100000 in
theorem ii_rw_isOfPairs_38 : sm_D prog_4_method_8_code 38 3 41 (.invokestatic 32) := ⟨by decide +kernel, rfl⟩
set_option maxRecDepth 100000 in
theorem ii_rw_isOfPairs_41 : sm_D prog_4_method_8_code 41 3 44 (.ifCond .ne 5) := ⟨by decide +kernel, rfl⟩
set_option maxRecDepth 100000 in
theorem ii_rw_isOfPairs_44 : sm_D prog_4_method_8_code 44 1 45 (.iconst 0) := ⟨by decide +kernel, rfl⟩
set_option maxRecDepth 100000 in
theorem ii_rw_isOfPairs_45 : sm_D prog_4_method_8_code 45 1 46 (.ireturn) := ⟨by decide +kernel, rfl⟩
set_option maxRecDepth 100000 in
theorem ii_rw_isOfPairs_46 : sm_D prog_4_method_8_code 46 3 49 (.iinc 1 2) := ⟨by decide +kernel, rfl⟩
set_option maxRecDepth 100000 in
theorem ii_rw_isOfPairs_49 : sm_D prog_4_method_8_code 49 3 52 (.goto (-47)) := ⟨by decide +kernel, rfl⟩
set_option maxRecDepth 100000 in
theorem ii_rw_isOfPairs_52 : sm_D prog_4_method_8_code 52 1 53 (.iconst 1) := ⟨by decide +kernel, rfl⟩
set_option maxRecDepth 100000 in
theorem ii_rw_isOfPairs_53 : sm_D prog_4_method_8_code 53 1 54 (.ireturn) := ⟨by decide +kernel, rfl⟩
noncomputable def ff_rw_isOfPairs_2_b  (self2 : Nat → Int32 → sm_Mem → sm_R) (a0 : Nat) (a1 : Int32) (w : sm_Mem) : sm_R := (Option.bind (sm_gI w a0 2 1) fun x1 => (if x1 ≤ (a1 + (1 : Int32)) then (some (.int (1 : Int32), w)) else (Option.bind (sm_fk a0 2 0 2) fun r2 => (Option.bind (sm_rds w r2 a1) fun x3 => (sm_cI (ff_ho_isWithin (x3) ((6 : Int32)) w) fun x4 w5 => (if x4 = (0 : Int32) then (some (.int (0 : Int32), w5)) else (Option.bind (sm_fk a0 2 0 2) fun r6 => (Option.bind (sm_rds w5 r6 (a1 + (1 : Int32))) fun x7 => (sm_cI (ff_ho_isWithin (x7) ((6 : Int32)) w5) fun x8 w9 => (if x8 = (0 : Int32) then (some (.int (0 : Int32), w9)) else self2 (a0) ((a1 + (2 : Int32))) w9))))))))))
noncomputable def ff_rw_isOfPairs_2_f  : Nat → Nat → Int32 → sm_Mem → sm_R
  | 0, _, _, _ => none
  | n + 1, a0, a1, w => ff_rw_isOfPairs_2_b  (ff_rw_isOfPairs_2_f  n) a0 a1 w
noncomputable def ff_rw_isOfPairs_2  (a0 : Nat) (a1 : Int32) (w : sm_Mem) : sm_R := ff_rw_isOfPairs_2_f  sm_N a0 a1 w
set_option maxHeartbeats 4000000 in
set_option maxRecDepth 100000 in
theorem ss_rw_isOfPairs_2_b {E : Nat × (Nat → Int32)}  (self2 : Nat → Int32 → sm_Mem → sm_R) (hself2 : ∀ (a0 : Nat) (a1 : Int32) (w : sm_Mem), sm_Sim E (mi_rw_isOfPairs) 2 [some (.ref a0), some (.int a1)] [] w (self2 a0 a1 w)) (a0 : Nat) (a1 : Int32) (w : sm_Mem) : sm_Sim E (mi_rw_isOfPairs) 2 [some (.ref a0), some (.int a1)] [] w (ff_rw_isOfPairs_2_b  self2 a0 a1 w) := by
  unfold ff_rw_isOfPairs_2_b
  refine sm_iload_n ii_rw_isOfPairs_2 rfl ?_
  refine sm_iconst (1 : Int32) ii_rw_isOfPairs_3 (by decide) ?_
  refine sm_iadd ii_rw_isOfPairs_4 ?_
  refine sm_aload_n ii_rw_isOfPairs_5 rfl ?_
  refine sm_getIs ii_rw_isOfPairs_6 fl_rw_21 (fun x1 => ?_)
  refine sm_icmp_ge 52 ii_rw_isOfPairs_9 (by decide) ?_ ?_
  · refine sm_iconst (1 : Int32) ii_rw_isOfPairs_52 (by decide) ?_
    exact sm_zret1 ii_rw_isOfPairs_53 rfl (by decide)
  · refine sm_aload_n ii_rw_isOfPairs_12 rfl ?_
    refine sm_getRs ii_rw_isOfPairs_13 fl_rw_15 (fun r2 => ?_)
    refine sm_iload_n ii_rw_isOfPairs_16 rfl ?_
    refine sm_ialds ii_rw_isOfPairs_17 (fun x3 => ?_)
    refine sm_bipush (6 : Int32) ii_rw_isOfPairs_18 (by decide) ?_
    refine sm_csI [.int x3, .int (6 : Int32)] [] rfl ii_rw_isOfPairs_20 ml_rw_32 (mf_ho_isWithin) (mv_ho_isWithin) (Nat.le_of_ble_eq_true rfl) rfl rfl rfl (mc_ho_isWithin (x3) ((6 : Int32)) w) (fun x4 w5 => ?_)
    refine sm_if_ne 28 ii_rw_isOfPairs_23 (by decide) ?_ ?_
    · refine sm_iconst (0 : Int32) ii_rw_isOfPairs_26 (by decide) ?_
      exact sm_zret1 ii_rw_isOfPairs_27 rfl (by decide)
    · refine sm_aload_n ii_rw_isOfPairs_28 rfl ?_
      refine sm_getRs ii_rw_isOfPairs_29 fl_rw_15 (fun r6 => ?_)
      refine sm_iload_n ii_rw_isOfPairs_32 rfl ?_
      refine sm_iconst (1 : Int32) ii_rw_isOfPairs_33 (by decide) ?_
      refine sm_iadd ii_rw_isOfPairs_34 ?_
      refine sm_ialds ii_rw_isOfPairs_35 (fun x7 => ?_)
      refine sm_bipush (6 : Int32) ii_rw_isOfPairs_36 (by decide) ?_
      refine sm_csI [.int x7, .int (6 : Int32)] [] rfl ii_rw_isOfPairs_38 ml_rw_32 (mf_ho_isWithin) (mv_ho_isWithin) (Nat.le_of_ble_eq_true rfl) rfl rfl rfl (mc_ho_isWithin (x7) ((6 : Int32)) w5) (fun x8 w9 => ?_)
      refine sm_if_ne 46 ii_rw_isOfPairs_41 (by decide) ?_ ?_
      · refine sm_iconst (0 : Int32) ii_rw_isOfPairs_44 (by decide) ?_
        exact sm_zret1 ii_rw_isOfPairs_45 rfl (by decide)
      · refine sm_iinc (a1 + (2 : Int32)) [some (.ref a0), some (.int (a1 + (2 : Int32)))] ii_rw_isOfPairs_46 rfl rfl rfl rfl ?_
        refine sm_goto 2 ii_rw_isOfPairs_49 (by decide) ?_
        exact hself2 (a0) ((a1 + (2 : Int32))) w9
set_option maxHeartbeats 4000000 in
set_option maxRecDepth 100000 in
theorem ss_rw_isOfPairs_2_f {E : Nat × (Nat → Int32)}  : ∀ (n : Nat) (a0 : Nat) (a1 : Int32) (w : sm_Mem), sm_Sim E (mi_rw_isOfPairs) 2 [some (.ref a0), some (.int a1)] [] w (ff_rw_isOfPairs_2_f  n a0 a1 w)
  | 0, _, _, _ => fun _ _ h => by cases h
  | n + 1, a0, a1, w => ss_rw_isOfPairs_2_b  _ (ss_rw_isOfPairs_2_f  n) a0 a1 w
set_option maxHeartbeats 4000000 in
set_option maxRecDepth 100000 in
theorem ss_rw_isOfPairs_2 {E : Nat × (Nat → Int32)}  (a0 : Nat) (a1 : Int32) (w : sm_Mem) : sm_Sim E (mi_rw_isOfPairs) 2 [some (.ref a0), some (.int a1)] [] w (ff_rw_isOfPairs_2  a0 a1 w) := ss_rw_isOfPairs_2_f  sm_N a0 a1 w
noncomputable def ff_rw_isOfPairs  (a0 : Nat) (w : sm_Mem) : sm_R := ff_rw_isOfPairs_2 (a0) ((0 : Int32)) w
set_option maxHeartbeats 4000000 in
set_option maxRecDepth 100000 in
theorem ss_rw_isOfPairs_0 {E : Nat × (Nat → Int32)}  (a0 : Nat) (w : sm_Mem) : sm_Sim E (mi_rw_isOfPairs) 0 [some (.ref a0), none] [] w (ff_rw_isOfPairs  a0 w) := by
  unfold ff_rw_isOfPairs
  refine sm_iconst (0 : Int32) ii_rw_isOfPairs_0 (by decide) ?_
  refine sm_istore_n [some (.ref a0), some (.int (0 : Int32))] ii_rw_isOfPairs_1 rfl rfl ?_
  exact ss_rw_isOfPairs_2 (a0) ((0 : Int32)) w
set_option maxHeartbeats 4000000 in
set_option maxRecDepth 100000 in
theorem mc_rw_isOfPairs (a0 : Nat) (w : sm_Mem) : sm_MC mi_rw_isOfPairs [.ref a0] w (ff_rw_isOfPairs a0 w) := sm_MC_of (0, fun _ => 0) (by decide +kernel) (by decide) rfl (Nat.le_of_ble_eq_true rfl) (ss_rw_isOfPairs_0 a0 w)
abbrev mi_ho_refusalOfPairs : sm_MI := (⟨"HerOrders", "refusalOfPairs", "(I)I"⟩, prog_1_method_51_code, 2, (some .int), 3)
set_option maxRecDepth 100000 in
theorem mf_ho_refusalOfPairs : sm_MF mi_ho_refusalOfPairs 1 := ⟨List.mem_of_getElem? (i := 745) (by decide +kernel), List.mem_of_getElem? (i := 124) (by decide +kernel), ⟨by decide, by decide⟩, by decide +kernel⟩
set_option maxRecDepth 100000 in
theorem mv_ho_refusalOfPairs : sm_MFV mi_ho_refusalOfPairs := ⟨List.mem_of_getElem? (i := 744) (by decide +kernel), List.mem_of_getElem? (i := 47) (by decide +kernel)⟩
set_option maxRecDepth 100000 in
theorem ii_ho_refusalOfPairs_0 : sm_D prog_1_method_51_code 0 1 1 (.iload_n 1) := ⟨by decide +kernel, rfl⟩
set_option maxRecDepth 100000 in
theorem ii_ho_refusalOfPairs_1 : sm_D prog_1_method_51_code 1 2 3 (.bipush 6) := ⟨by decide +kernel, rfl⟩
set_option maxRecDepth 100000 in
theorem ii_ho_refusalOfPairs_3 : sm_D prog_1_method_51_code 3 3 6 (.invokestatic 81) := ⟨by decide +kernel, rfl⟩
set_option maxRecDepth 100000 in
theorem ii_ho_refusalOfPairs_6 : sm_D prog_1_method_51_code 6 3 9 (.ifCond .ne 5) := ⟨by decide +kernel, rfl⟩
set_option maxRecDepth 100000 in
theorem ii_ho_refusalOfPairs_9 : sm_D prog_1_method_51_code 9 1 10 (.iconst (-1)) := ⟨by decide +kernel, rfl⟩
set_option maxRecDepth 100000 in
theorem ii_ho_refusalOfPairs_10 : sm_D prog_1_method_51_code 10 1 11 (.ireturn) := ⟨by decide +kernel, rfl⟩
set_option maxRecDepth 100000 in
theorem ii_ho_refusalOfPairs_11 : sm_D prog_1_method_51_code 11 1 12 (.aload_n 0) := ⟨by decide +kernel, rfl⟩
set_option maxRecDepth 100000 in
theorem ii_ho_refusalOfPairs_12 : sm_D prog_1_method_51_code 12 3 15 (.getfield 31) := ⟨by decide +kernel, rfl⟩
set_option maxRecDepth 100000 in
theorem ii_ho_refusalOfPairs_15 : sm_D prog_1_method_51_code 15 3 18 (.getfield 115) := ⟨by decide +kernel, rfl⟩
set_option maxRecDepth 100000 in
theorem ii_ho_refusalOfPairs_18 : sm_D prog_1_method_51_code 18 3 21 (.ifCond .ne 6) := ⟨by decide +kernel, rfl⟩
set_option maxRecDepth 100000 in
theorem ii_ho_refusalOfPairs_21 : sm_D prog_1_method_51_code 21 2 23 (.bipush (-4)) := ⟨by decide +kernel, rfl⟩
set_option maxRecDepth 100000 in
theorem ii_ho_refusalOfPairs_23 : sm_D prog_1_method_51_code 23 1 24 (.ireturn) := ⟨by decide +kernel, rfl⟩
set_option maxRecDepth 100000 in
theorem ii_ho_refusalOfPairs_24 : sm_D prog_1_method_51_code 24 1 25 (.aload_n 0) := ⟨by decide +kernel, rfl⟩
set_option maxRecDepth 100000 in
theorem ii_ho_refusalOfPairs_25 : sm_D prog_1_method_51_code 25 3 28 (.getfield 11) := ⟨by decide +kernel, rfl⟩
set_option maxRecDepth 100000 in
theorem ii_ho_refusalOfPairs_28 : sm_D prog_1_method_51_code 28 1 29 (.iload_n 1) := ⟨by decide +kernel, rfl⟩
set_option maxRecDepth 100000 in
theorem ii_ho_refusalOfPairs_29 : sm_D prog_1_method_51_code 29 1 30 (.aaload) := ⟨by decide +kernel, rfl⟩
set_option maxRecDepth 100000 in
theorem ii_ho_refusalOfPairs_30 : sm_D prog_1_method_51_code 30 3 33 (.invokevirtual 89) := ⟨by decide +kernel, rfl⟩
set_option maxRecDepth 100000 in
theorem ii_ho_refusalOfPairs_33 : sm_D prog_1_method_51_code 33 3 36 (.ifCond .eq 12) := ⟨by decide +kernel, rfl⟩
set_option maxRecDepth 100000 in
theorem ii_ho_refusalOfPairs_36 : sm_D prog_1_method_51_code 36 1 37 (.aload_n 0) := ⟨by decide +kernel, rfl⟩
set_option maxRecDepth 100000 in
theorem ii_ho_refusalOfPairs_37 : sm_D prog_1_method_51_code 37 3 40 (.getfield 54) := ⟨by decide +kernel, rfl⟩
set_option maxRecDepth 100000 in
theorem ii_ho_refusalOfPairs_40 : sm_D prog_1_method_51_code 40 1 41 (.iconst 1) := ⟨by decide +kernel, rfl⟩
set_option maxRecDepth 100000 in
theorem ii_ho_refusalOfPairs_41 : sm_D prog_1_method_51_code 41 3 44 (.invokevirtual 85) := ⟨by decide +kernel, rfl⟩
set_option maxRecDepth 100000 in
theorem ii_ho_refusalOfPairs_44 : sm_D prog_1_method_51_code 44 1 45 (.ireturn) := ⟨by decide +kernel, rfl⟩
set_option maxRecDepth 100000 in
theorem ii_ho_refusalOfPairs_45 : sm_D prog_1_method_51_code 45 1 46 (.aload_n 0) := ⟨by decide +kernel, rfl⟩
set_option maxRecDepth 100000 in
theorem ii_ho_refusalOfPairs_46 : sm_D prog_1_method_51_code 46 3 49 (.getfield 11) := ⟨by decide +kernel, rfl⟩
set_option maxRecDepth 100000 in
theorem ii_ho_refusalOfPairs_49 : sm_D prog_1_method_51_code 49 1 50 (.iload_n 1) := ⟨by decide +kernel, rfl⟩
set_option maxRecDepth 100000 in
theorem ii_ho_refusalOfPairs_50 : sm_D prog_1_method_51_code 50 1 51 (.aaload) := ⟨by decide +kernel, rfl⟩
set_option maxRecDepth 100000 in
theorem ii_ho_refusalOfPairs_51 : sm_D prog_1_method_51_code 51 3 54 (.getfield 78) := ⟨by decide +kernel, rfl⟩
set_option maxRecDepth 100000 in
theorem ii_ho_refusalOfPairs_54 : sm_D prog_1_method_51_code 54 1 55 (.iconst 2) := ⟨by decide +kernel, rfl⟩
set_option maxRecDepth 100000 in
theorem ii_ho_refusalOfPairs_55 : sm_D prog_1_method_51_code 55 1 56 (.irem) := ⟨by decide +kernel, rfl⟩
set_option maxRecDepth 100000 in
theorem ii_ho_refusalOfPairs_56 : sm_D prog_1_method_51_code 56 3 59 (.ifCond .ne 17) := ⟨by decide +kernel, rfl⟩
set_option maxRecDepth 100000 in
theorem ii_ho_refusalOfPairs_59 : sm_D prog_1_method_51_code 59 1 60 (.aload_n 0) := ⟨by decide +kernel, rfl⟩
set_option maxRecDepth 100000 in
theorem ii_ho_refusalOfPairs_60 : sm_D prog_1_method_51_code 60 3 63 (.getfield 11) := ⟨by decide +kernel, rfl⟩
set_option maxRecDepth 100000 in
theorem ii_ho_refusalOfPairs_63 : sm_D prog_1_method_51_code 63 1 64 (.iload_n 1) := ⟨by decide +kernel, rfl⟩
set_option maxRecDepth 100000 in
theorem ii_ho_refusalOfPairs_64 : sm_D prog_1_method_51_code 64 1 65 (.aaload) := ⟨by decide +kernel, rfl⟩
set_option maxRecDepth 100000 in
theorem ii_ho_refusalOfPairs_65 : sm_D prog_1_method_51_code 65 3 68 (.getfield 78) := ⟨by decide +kernel, rfl⟩
set_option maxRecDepth 100000 in
theorem ii_ho_refusalOfPairs_68 : sm_D prog_1_method_51_code 68 2 70 (.bipush 10) := ⟨by decide +kernel, rfl⟩
set_option maxRecDepth 100000 in
theorem ii_ho_refusalOfPairs_70 : sm_D prog_1_method_51_code 70 3 73 (.if_icmp .le 12) := ⟨by decide +kernel, rfl⟩
set_option maxRecDepth 100000 in
theorem ii_ho_refusalOfPairs_73 : sm_D prog_1_method_51_code 73 1 74 (.aload_n 0) := ⟨by decide +kernel, rfl⟩
set_option maxRecDepth 100000 in
theorem ii_ho_refusalOfPairs_74 : sm_D prog_1_method_51_code 74 3 77 (.getfield 54) := ⟨by decide +kernel, rfl⟩
set_option maxRecDepth 100000 in
theorem ii_ho_refusalOfPairs_77 : sm_D prog_1_method_51_code 77 1 78 (.iconst 5) := ⟨by decide +kernel, rfl⟩
set_option maxRecDepth 100000 in
theorem ii_ho_refusalOfPairs_78 : sm_D prog_1_method_51_code 78 3 81 (.invokevirtual 85) := ⟨by decide +kernel, rfl⟩
set_option maxRecDepth 100000 in
theorem ii_ho_refusalOfPairs_81 : sm_D prog_1_method_51_code 81 1 82 (.ireturn) := ⟨by decide +kernel, rfl⟩
set_option maxRecDepth 100000 in
theorem ii_ho_refusalOfPairs_82 : sm_D prog_1_method_51_code 82 1 83 (.aload_n 0) := ⟨by decide +kernel, rfl⟩
set_option maxRecDepth 100000 in
theorem ii_ho_refusalOfPairs_83 : sm_D prog_1_method_51_code 83 3 86 (.getfield 11) := ⟨by decide +kernel, rfl⟩
set_option maxRecDepth 100000 in
theorem ii_ho_refusalOfPairs_86 : sm_D prog_1_method_51_code 86 1 87 (.iload_n 1) := ⟨by decide +kernel, rfl⟩
set_option maxRecDepth 100000 in
theorem ii_ho_refusalOfPairs_87 : sm_D prog_1_method_51_code 87 1 88 (.aaload) := ⟨by decide +kernel, rfl⟩
set_option maxRecDepth 100000 in
theorem ii_ho_refusalOfPairs_88 : sm_D prog_1_method_51_code 88 3 91 (.invokevirtual 328) := ⟨by decide +kernel, rfl⟩
set_option maxRecDepth 100000 in
theorem ii_ho_refusalOfPairs_91 : sm_D prog_1_method_51_code 91 3 94 (.ifCond .eq 7) := ⟨by decide +kernel, rfl⟩
set_option maxRecDepth 100000 in
theorem ii_ho_refusalOfPairs_94 : sm_D prog_1_method_51_code 94 1 95 (.iconst 0) := ⟨by decide +kernel, rfl⟩
set_option maxRecDepth 100000 in
theorem ii_ho_refusalOfPairs_95 : sm_D prog_1_method_51_code 95 3 98 (.goto 11) := ⟨by decide +kernel, rfl⟩
set_option maxRecDepth 100000 in
theorem ii_ho_refusalOfPairs_98 : sm_D prog_1_method_51_code 98 1 99 (.aload_n 0) := ⟨by decide +kernel, rfl⟩
set_option maxRecDepth 100000 in
theorem ii_ho_refusalOfPairs_99 : sm_D prog_1_method_51_code 99 3 102 (.getfield 54) := ⟨by decide +kernel, rfl⟩
set_option maxRecDepth 100000 in
theorem ii_ho_refusalOfPairs_102 : sm_D prog_1_method_51_code 102 1 103 (.iconst 3) := ⟨by decide +kernel, rfl⟩
set_option maxRecDepth 100000 in
theorem ii_ho_refusalOfPairs_103 : sm_D prog_1_method_51_code 103 3 106 (.invokevirtual 85) := ⟨by decide +kernel, rfl⟩
set_option maxRecDepth 100000 in
theorem ii_ho_refusalOfPairs_106 : sm_D prog_1_method_51_code 106 1 107 (.ireturn) := ⟨by decide +kernel, rfl⟩
noncomputable def ff_ho_refusalOfPairs_73   (w : sm_Mem) : sm_R := (sm_cI (ff_td_refuse ((5 : Int32)) w) fun x1 w2 => (some (.int x1, w2)))
set_option maxHeartbeats 4000000 in
set_option maxRecDepth 100000 in
theorem ss_ho_refusalOfPairs_73 {E : Nat × (Nat → Int32)}   (w : sm_Mem) : sm_Sim E (mi_ho_refusalOfPairs) 73 [some (.ref 0), none] [] w (ff_ho_refusalOfPairs_73   w) := by
  unfold ff_ho_refusalOfPairs_73
  refine sm_aload_n ii_ho_refusalOfPairs_73 rfl ?_
  refine sm_getR 60 ii_ho_refusalOfPairs_74 fl_ho_54 (k := 0) rfl ?_
  refine sm_iconst (5 : Int32) ii_ho_refusalOfPairs_77 (by decide) ?_
  refine sm_cvI [.int (5 : Int32)] [] rfl ii_ho_refusalOfPairs_78 ml_ho_85 (mf_td_refuse) (mv_td_refuse) (Nat.le_of_ble_eq_true rfl) rfl 3 rfl rfl rfl rfl (mc_td_refuse ((5 : Int32)) w) (fun x1 w2 => ?_)
  exact sm_iret ii_ho_refusalOfPairs_81 rfl
noncomputable def ff_ho_refusalOfPairs  (a1 : Int32) (w : sm_Mem) : sm_R := (sm_cI (ff_ho_isWithin (a1) ((6 : Int32)) w) fun x3 w4 => (if x3 = (0 : Int32) then (some (.int (-1 : Int32), w4)) else (if (w4.1 36 0) = (0 : Int32) then (some (.int (-4 : Int32), w4)) else (Option.bind (sm_rr 1 a1) fun r5 => (sm_cI (sm_rc r5 2 (ff_rw_isMissing (r5) w4)) fun x6 w7 => (if x6 = (0 : Int32) then (Option.bind (sm_rr 1 a1) fun r8 => (Option.bind (sm_gI w7 r8 2 1) fun x9 => (if (2 : Int32) = (0 : Int32) then none else (if (x9 - x9 / (2 : Int32) * (2 : Int32)) = (0 : Int32) then (Option.bind (sm_rr 1 a1) fun r11 => (Option.bind (sm_gI w7 r11 2 1) fun x12 => (if x12 ≤ (10 : Int32) then (Option.bind (sm_rr 1 a1) fun r13 => (sm_cI (sm_rc r13 2 (ff_rw_isOfPairs (r13) w7)) fun x14 w15 => (if x14 = (0 : Int32) then (sm_cI (ff_td_refuse ((3 : Int32)) w15) fun x16 w17 => (some (.int x16, w17))) else (some (.int (0 : Int32), w15))))) else ff_ho_refusalOfPairs_73  w7))) else ff_ho_refusalOfPairs_73  w7)))) else (sm_cI (ff_td_refuse ((1 : Int32)) w7) fun x18 w19 => (some (.int x18, w19)))))))))
set_option maxHeartbeats 4000000 in
set_option maxRecDepth 100000 in
theorem ss_ho_refusalOfPairs_0 {E : Nat × (Nat → Int32)}  (a1 : Int32) (w : sm_Mem) : sm_Sim E (mi_ho_refusalOfPairs) 0 [some (.ref 0), some (.int a1)] [] w (ff_ho_refusalOfPairs  a1 w) := by
  unfold ff_ho_refusalOfPairs
  refine sm_iload_n ii_ho_refusalOfPairs_0 rfl ?_
  refine sm_bipush (6 : Int32) ii_ho_refusalOfPairs_1 (by decide) ?_
  refine sm_csI [.int a1, .int (6 : Int32)] [] rfl ii_ho_refusalOfPairs_3 ml_ho_81 (mf_ho_isWithin) (mv_ho_isWithin) (Nat.le_of_ble_eq_true rfl) rfl rfl rfl (mc_ho_isWithin (a1) ((6 : Int32)) w) (fun x3 w4 => ?_)
  refine sm_if_ne 11 ii_ho_refusalOfPairs_6 (by decide) ?_ ?_
  · refine sm_iconst (-1 : Int32) ii_ho_refusalOfPairs_9 (by decide) ?_
    exact sm_iret ii_ho_refusalOfPairs_10 rfl
  · refine sm_aload_n ii_ho_refusalOfPairs_11 rfl ?_
    refine sm_getR 36 ii_ho_refusalOfPairs_12 fl_ho_31 (k := 0) rfl ?_
    refine sm_getI ii_ho_refusalOfPairs_15 fl_ho_115 (k := 36) rfl ?_
    refine sm_if_ne 24 ii_ho_refusalOfPairs_18 (by decide) ?_ ?_
    · refine sm_bipush (-4 : Int32) ii_ho_refusalOfPairs_21 (by decide) ?_
      exact sm_iret ii_ho_refusalOfPairs_23 rfl
    · refine sm_aload_n ii_ho_refusalOfPairs_24 rfl ?_
      refine sm_getR 1 ii_ho_refusalOfPairs_25 fl_ho_11 (k := 0) rfl ?_
      refine sm_iload_n ii_ho_refusalOfPairs_28 rfl ?_
      refine sm_aald ii_ho_refusalOfPairs_29 (fun r5 => ?_)
      refine sm_dvI [] [] rfl ii_ho_refusalOfPairs_30 ml_ho_89 (mf_rw_isMissing) (mv_rw_isMissing) (Nat.le_of_ble_eq_true rfl) rfl 2 rfl rfl rfl (mc_rw_isMissing (r5) w4) (fun x6 w7 => ?_)
      refine sm_if_eq 45 ii_ho_refusalOfPairs_33 (by decide) ?_ ?_
      · refine sm_aload_n ii_ho_refusalOfPairs_45 rfl ?_
        refine sm_getR 1 ii_ho_refusalOfPairs_46 fl_ho_11 (k := 0) rfl ?_
        refine sm_iload_n ii_ho_refusalOfPairs_49 rfl ?_
        refine sm_aald ii_ho_refusalOfPairs_50 (fun r8 => ?_)
        refine sm_getIs ii_ho_refusalOfPairs_51 fl_ho_78 (fun x9 => ?_)
        refine sm_iconst (2 : Int32) ii_ho_refusalOfPairs_54 (by decide) ?_
        refine sm_irem ii_ho_refusalOfPairs_55 ?_
        refine sm_if_ne 73 ii_ho_refusalOfPairs_56 (by decide) ?_ ?_
        · refine sm_aload_n ii_ho_refusalOfPairs_59 rfl ?_
          refine sm_getR 1 ii_ho_refusalOfPairs_60 fl_ho_11 (k := 0) rfl ?_
          refine sm_iload_n ii_ho_refusalOfPairs_63 rfl ?_
          refine sm_aald ii_ho_refusalOfPairs_64 (fun r11 => ?_)
          refine sm_getIs ii_ho_refusalOfPairs_65 fl_ho_78 (fun x12 => ?_)
          refine sm_bipush (10 : Int32) ii_ho_refusalOfPairs_68 (by decide) ?_
          refine sm_icmp_le 82 ii_ho_refusalOfPairs_70 (by decide) ?_ ?_
          · refine sm_aload_n ii_ho_refusalOfPairs_82 rfl ?_
            refine sm_getR 1 ii_ho_refusalOfPairs_83 fl_ho_11 (k := 0) rfl ?_
            refine sm_iload_n ii_ho_refusalOfPairs_86 rfl ?_
            refine sm_aald ii_ho_refusalOfPairs_87 (fun r13 => ?_)
            refine sm_dvI [] [] rfl ii_ho_refusalOfPairs_88 ml_ho_328 (mf_rw_isOfPairs) (mv_rw_isOfPairs) (Nat.le_of_ble_eq_true rfl) rfl 2 rfl rfl rfl (mc_rw_isOfPairs (r13) w7) (fun x14 w15 => ?_)
            refine sm_if_eq 98 ii_ho_refusalOfPairs_91 (by decide) ?_ ?_
            · refine sm_aload_n ii_ho_refusalOfPairs_98 rfl ?_
              refine sm_getR 60 ii_ho_refusalOfPairs_99 fl_ho_54 (k := 0) rfl ?_
              refine sm_iconst (3 : Int32) ii_ho_refusalOfPairs_102 (by decide) ?_
              refine sm_cvI [.int (3 : Int32)] [] rfl ii_ho_refusalOfPairs_103 ml_ho_85 (mf_td_refuse) (mv_td_refuse) (Nat.le_of_ble_eq_true rfl) rfl 3 rfl rfl rfl rfl (mc_td_refuse ((3 : Int32)) w15) (fun x16 w17 => ?_)
              exact sm_iret ii_ho_refusalOfPairs_106 rfl
            · refine sm_iconst (0 : Int32) ii_ho_refusalOfPairs_94 (by decide) ?_
              refine sm_goto 106 ii_ho_refusalOfPairs_95 (by decide) ?_
              exact sm_iret ii_ho_refusalOfPairs_106 rfl
          · refine sm_msk [true, false] [some (.ref 0), none] rfl ?_
            exact ss_ho_refusalOfPairs_73  w7
        · refine sm_msk [true, false] [some (.ref 0), none] rfl ?_
          exact ss_ho_refusalOfPairs_73  w7
      · refine sm_aload_n ii_ho_refusalOfPairs_36 rfl ?_
        refine sm_getR 60 ii_ho_refusalOfPairs_37 fl_ho_54 (k := 0) rfl ?_
        refine sm_iconst (1 : Int32) ii_ho_refusalOfPairs_40 (by decide) ?_
        refine sm_cvI [.int (1 : Int32)] [] rfl ii_ho_refusalOfPairs_41 ml_ho_85 (mf_td_refuse) (mv_td_refuse) (Nat.le_of_ble_eq_true rfl) rfl 3 rfl rfl rfl rfl (mc_td_refuse ((1 : Int32)) w7) (fun x18 w19 => ?_)
        exact sm_iret ii_ho_refusalOfPairs_44 rfl
set_option maxHeartbeats 4000000 in
set_option maxRecDepth 100000 in
theorem mc_ho_refusalOfPairs (a1 : Int32) (w : sm_Mem) : sm_MC mi_ho_refusalOfPairs [.ref 0, .int a1] w (ff_ho_refusalOfPairs a1 w) := sm_MC_of (0, fun _ => 0) (by decide +kernel) (by decide) rfl (Nat.le_of_ble_eq_true rfl) (ss_ho_refusalOfPairs_0 a1 w)
abbrev mi_wy_runPairs : sm_MI := (⟨"HerOrders$Ways", "runPairs", "(LHerOrders$Row;)V"⟩, prog_7_method_3_code, 3, none, 14)
set_option maxRecDepth 100000 in
theorem mf_wy_runPairs : sm_MF mi_wy_runPairs 1 := ⟨List.mem_of_getElem? (i := 753) (by decide +kernel), List.mem_of_getElem? (i := 129) (by decide +kernel), ⟨by decide, by decide⟩, by decide +kernel⟩
set_option maxRecDepth 100000 in
theorem mv_wy_runPairs : sm_MFV mi_wy_runPairs := ⟨List.mem_of_getElem? (i := 752) (by decide +kernel), List.mem_of_getElem? (i := 49) (by decide +kernel)⟩
set_option maxRecDepth 100000 in
theorem ii_wy_runPairs_0 : sm_D prog_7_method_3_code 0 1 1 (.aload_n 0) := ⟨by decide +kernel, rfl⟩
set_option maxRecDepth 100000 in
theorem ii_wy_runPairs_1 : sm_D prog_7_method_3_code 1 1 2 (.iconst 0) := ⟨by decide +kernel, rfl⟩
set_option maxRecDepth 100000 in
theorem ii_wy_runPairs_2 : sm_D prog_7_method_3_code 2 1 3 (.aload_n 1) := ⟨by decide +kernel, rfl⟩
set_option maxRecDepth 100000 in
theorem ii_wy_runPairs_3 : sm_D prog_7_method_3_code 3 3 6 (.getfield 34) := ⟨by decide +kernel, rfl⟩
set_option maxRecDepth 100000 in
theorem ii_wy_runPairs_6 : sm_D prog_7_method_3_code 6 1 7 (.iconst 2) := ⟨by decide +kernel, rfl⟩
set_option maxRecDepth 100000 in
theorem ii_wy_runPairs_7 : sm_D prog_7_method_3_code 7 1 8 (.idiv) := ⟨by decide +kernel, rfl⟩
set_option maxRecDepth 100000 in
theorem ii_wy_runPairs_8 : sm_D prog_7_method_3_code 8 1 9 (.iconst 5) := ⟨by decide +kernel, rfl⟩
set_option maxRecDepth 100000 in
theorem ii_wy_runPairs_9 : sm_D prog_7_method_3_code 9 3 12 (.invokestatic 40) := ⟨by decide +kernel, rfl⟩
set_option maxRecDepth 100000 in
theorem ii_wy_runPairs_12 : sm_D prog_7_method_3_code 12 3 15 (.invokestatic 46) := ⟨by decide +kernel, rfl⟩
set_option maxRecDepth 100000 in
theorem ii_wy_runPairs_15 : sm_D prog_7_method_3_code 15 3 18 (.putfield 49) := ⟨by decide +kernel, rfl⟩
set_option maxRecDepth 100000 in
theorem ii_wy_runPairs_18 : sm_D prog_7_method_3_code 18 1 19 (.iconst 0) := ⟨by decide +kernel, rfl⟩
set_option maxRecDepth 100000 in
theorem ii_wy_runPairs_19 : sm_D prog_7_method_3_code 19 1 20 (.istore_n 2) := ⟨by decide +kernel, rfl⟩
set_option maxRecDepth 100000 in
theorem ii_wy_runPairs_20 : sm_D prog_7_method_3_code 20 1 21 (.iload_n 2) := ⟨by decide +kernel, rfl⟩
set_option maxRecDepth 100000 in
theorem ii_wy_runPairs_21 : sm_D prog_7_method_3_code 21 1 22 (.aload_n 0) := ⟨by decide +kernel, rfl⟩
set_option maxRecDepth 100000 in
theorem ii_wy_runPairs_22 : sm_D prog_7_method_3_code 22 3 25 (.getfield 49) := ⟨by decide +kernel, rfl⟩
set_option maxRecDepth 100000 in
theorem ii_wy_runPairs_25 : sm_D prog_7_method_3_code 25 3 28 (.if_icmp .ge 39) := ⟨by decide +kernel, rfl⟩
set_option maxRecDepth 100000 in
theorem ii_wy_runPairs_28 : sm_D prog_7_method_3_code 28 1 29 (.aload_n 0) := ⟨by decide +kernel, rfl⟩
set_option maxRecDepth 100000 in
theorem ii_wy_runPairs_29 : sm_D prog_7_method_3_code 29 3 32 (.getfield 15) := ⟨by decide +kernel, rfl⟩
set_option maxRecDepth 100000 in
theorem ii_wy_runPairs_32 : sm_D prog_7_method_3_code 32 1 33 (.iload_n 2) := ⟨by decide +kernel, rfl⟩
set_option maxRecDepth 100000 in
theorem ii_wy_runPairs_33 : sm_D prog_7_method_3_code 33 1 34 (.aload_n 1) := ⟨by decide +kernel, rfl⟩
set_option maxRecDepth 100000 in
theorem ii_wy_runPairs_34 : sm_D prog_7_method_3_code 34 3 37 (.getfield 52) := ⟨by decide +kernel, rfl⟩
set_option maxRecDepth 100000 in
theorem ii_wy_runPairs_37 : sm_D prog_7_method_3_code 37 1 38 (.iconst 2) := ⟨by decide +kernel, rfl⟩
set_option maxRecDepth 100000 in
theorem ii_wy_runPairs_38 : sm_D prog_7_method_3_code 38 1 39 (.iload_n 2) := ⟨by decide +kernel, rfl⟩
set_option maxRecDepth 100000 in
theorem ii_wy_runPairs_39 : sm_D prog_7_method_3_code 39 1 40 (.imul) := ⟨by decide +kernel, rfl⟩
set_option maxRecDepth 100000 in
theorem ii_wy_runPairs_40 : sm_D prog_7_method_3_code 40 1 41 (.iaload) := ⟨by decide +kernel, rfl⟩
set_option maxRecDepth 100000 in
theorem ii_wy_runPairs_41 : sm_D prog_7_method_3_code 41 1 42 (.iastore) := ⟨by decide +kernel, rfl⟩
set_option maxRecDepth 100000 in
theorem ii_wy_runPairs_42 : sm_D prog_7_method_3_code 42 1 43 (.aload_n 0) := ⟨by decide +kernel, rfl⟩
set_option maxRecDepth 100000 in
theorem ii_wy_runPairs_43 : sm_D prog_7_method_3_code 43 3 46 (.getfield 19) := ⟨by decide +kernel, rfl⟩
set_option maxRecDepth 100000 in
theorem ii_wy_runPairs_46 : sm_D prog_7_method_3_code 46 1 47 (.iload_n 2) := ⟨by decide +kernel, rfl⟩
set_option maxRecDepth 100000 in
theorem ii_wy_runPairs_47 : sm_D prog_7_method_3_code 47 1 48 (.aload_n 1) := ⟨by decide +kernel, rfl⟩
set_option maxRecDepth 100000 in
theorem ii_wy_runPairs_48 : sm_D prog_7_method_3_code 48 3 51 (.getfield 52) := ⟨by decide +kernel, rfl⟩
set_option maxRecDepth 100000 in
theorem ii_wy_runPairs_51 : sm_D prog_7_method_3_code 51 1 52 (.iconst 2) := ⟨by decide +kernel, rfl⟩
set_option maxRecDepth 100000 in
theorem ii_wy_runPairs_52 : sm_D prog_7_method_3_code 52 1 53 (.iload_n 2) := ⟨by decide +kernel, rfl⟩
set_option maxRecDepth 100000 in
theorem ii_wy_runPairs_53 : sm_D prog_7_method_3_code 53 1 54 (.imul) := ⟨by decide +kernel, rfl⟩
set_option maxRecDepth 100000 in
theorem ii_wy_runPairs_54 : sm_D prog_7_method_3_code 54 1 55 (.iconst 1) := ⟨by decide +kernel, rfl⟩
set_option maxRecDepth 100000 in
theorem ii_wy_runPairs_55 : sm_D prog_7_method_3_code 55 1 56 (.iadd) := ⟨by decide +kernel, rfl⟩
set_option maxRecDepth 100000 in
theorem ii_wy_runPairs_56 : sm_D prog_7_method_3_code 56 1 57 (.iaload) := ⟨by decide +kernel, rfl⟩
set_option maxRecDepth 100000 in
theorem ii_wy_runPairs_57 : sm_D prog_7_method_3_code 57 1 58 (.iastore) := ⟨by decide +kernel, rfl⟩
set_option maxRecDepth 100000 in
theorem ii_wy_runPairs_58 : sm_D prog_7_method_3_code 58 3 61 (.iinc 2 1) := ⟨by decide +kernel, rfl⟩
set_option maxRecDepth 100000 in
theorem ii_wy_runPairs_61 : sm_D prog_7_method_3_code 61 3 64 (.goto (-41)) := ⟨by decide +kernel, rfl⟩
set_option maxRecDepth 100000 in
theorem ii_wy_runPairs_64 : sm_D prog_7_method_3_code 64 1 65 (.aload_n 0) := ⟨by decide +kernel, rfl⟩
set_option maxRecDepth 100000 in
theorem ii_wy_runPairs_65 : sm_D prog_7_method_3_code 65 2 67 (.bipush (-9)) := ⟨by decide +kernel, rfl⟩
set_option maxRecDepth 100000 in
theorem ii_wy_runPairs_67 : sm_D prog_7_method_3_code 67 3 70 (.invokevirtual 55) := ⟨by decide +kernel, rfl⟩
set_option maxRecDepth 100000 in
theorem ii_wy_runPairs_70 : sm_D prog_7_method_3_code 70 1 71 (.aload_n 0) := ⟨by decide +kernel, rfl⟩
set_option maxRecDepth 100000 in
theorem ii_wy_runPairs_71 : sm_D prog_7_method_3_code 71 1 72 (.iconst 0) := ⟨by decide +kernel, rfl⟩
set_option maxRecDepth 100000 in
theorem ii_wy_runPairs_72 : sm_D prog_7_method_3_code 72 1 73 (.iconst 0) := ⟨by decide +kernel, rfl⟩
set_option maxRecDepth 100000 in
theorem ii_wy_runPairs_73 : sm_D prog_7_method_3_code 73 3 76 (.invokevirtual 59) := ⟨by decide +kernel, rfl⟩
set_option maxRecDepth 100000 in
theorem ii_wy_runPairs_76 : sm_D prog_7_method_3_code 76 1 77 (.return_) := ⟨by decide +kernel, rfl⟩
noncomputable def ff_wy_runPairs_20_b  (self20 : Nat → Int32 → sm_Mem → sm_R) (a1 : Nat) (a2 : Int32) (w : sm_Mem) : sm_R := (if (w.1 49 3) ≤ a2 then (sm_cV (ff_wy_clear ((-9 : Int32)) w) fun w2 => (sm_cV (ff_wy_goOn 8 ((0 : Int32)) ((0 : Int32)) w2) fun w4 => (some (.null, w4)))) else (Option.bind (sm_fk a1 2 0 2) fun r5 => (Option.bind (sm_rds w r5 ((2 : Int32) * a2)) fun x6 => (Option.bind (sm_wr w 50 5 a2 x6) fun w7 => (Option.bind (sm_fk a1 2 0 2) fun r8 => (Option.bind (sm_rds w7 r8 (((2 : Int32) * a2) + (1 : Int32))) fun x9 => (Option.bind (sm_wr w7 51 5 a2 x9) fun w10 => self20 (a1) ((a2 + (1 : Int32))) w10)))))))
noncomputable def ff_wy_runPairs_20_f  : Nat → Nat → Int32 → sm_Mem → sm_R
  | 0, _, _, _ => none
  | n + 1, a1, a2, w => ff_wy_runPairs_20_b  (ff_wy_runPairs_20_f  n) a1 a2 w
noncomputable def ff_wy_runPairs_20  (a1 : Nat) (a2 : Int32) (w : sm_Mem) : sm_R := ff_wy_runPairs_20_f  sm_N a1 a2 w
set_option maxHeartbeats 4000000 in
set_option maxRecDepth 100000 in
theorem ss_wy_runPairs_20_b {E : Nat × (Nat → Int32)}  (self20 : Nat → Int32 → sm_Mem → sm_R) (hself20 : ∀ (a1 : Nat) (a2 : Int32) (w : sm_Mem), sm_Sim E (mi_wy_runPairs) 20 [some (.ref 49), some (.ref a1), some (.int a2)] [] w (self20 a1 a2 w)) (a1 : Nat) (a2 : Int32) (w : sm_Mem) : sm_Sim E (mi_wy_runPairs) 20 [some (.ref 49), some (.ref a1), some (.int a2)] [] w (ff_wy_runPairs_20_b  self20 a1 a2 w) := by
  unfold ff_wy_runPairs_20_b
  refine sm_iload_n ii_wy_runPairs_20 rfl ?_
  refine sm_aload_n ii_wy_runPairs_21 rfl ?_
  refine sm_getI ii_wy_runPairs_22 fl_wy_49 (k := 49) rfl ?_
  refine sm_icmp_ge 64 ii_wy_runPairs_25 (by decide) ?_ ?_
  · refine sm_aload_n ii_wy_runPairs_64 rfl ?_
    refine sm_bipush (-9 : Int32) ii_wy_runPairs_65 (by decide) ?_
    refine sm_cvV [.int (-9 : Int32)] [] rfl ii_wy_runPairs_67 ml_wy_55 (mf_wy_clear) (mv_wy_clear) (Nat.le_of_ble_eq_true rfl) rfl 5 rfl rfl rfl rfl (mc_wy_clear ((-9 : Int32)) w) (fun w2 => ?_)
    refine sm_aload_n ii_wy_runPairs_70 rfl ?_
    refine sm_iconst (0 : Int32) ii_wy_runPairs_71 (by decide) ?_
    refine sm_iconst (0 : Int32) ii_wy_runPairs_72 (by decide) ?_
    refine sm_cvV [.int (0 : Int32), .int (0 : Int32)] [] rfl ii_wy_runPairs_73 ml_wy_59 (mf_wy_goOn 13) (mv_wy_goOn 13) (Nat.le_of_ble_eq_true rfl) rfl 5 rfl rfl rfl rfl (mc_wy_goOn 8 ((0 : Int32)) ((0 : Int32)) w2) (fun w4 => ?_)
    exact sm_vret ii_wy_runPairs_76 rfl
  · refine sm_aload_n ii_wy_runPairs_28 rfl ?_
    refine sm_getR 50 ii_wy_runPairs_29 fl_wy_15 (k := 49) rfl ?_
    refine sm_iload_n ii_wy_runPairs_32 rfl ?_
    refine sm_aload_n ii_wy_runPairs_33 rfl ?_
    refine sm_getRs ii_wy_runPairs_34 fl_wy_52 (fun r5 => ?_)
    refine sm_iconst (2 : Int32) ii_wy_runPairs_37 (by decide) ?_
    refine sm_iload_n ii_wy_runPairs_38 rfl ?_
    refine sm_imul ii_wy_runPairs_39 ?_
    refine sm_ialds ii_wy_runPairs_40 (fun x6 => ?_)
    refine sm_iast ii_wy_runPairs_41 (k := 50) rfl (fun w7 => ?_)
    refine sm_aload_n ii_wy_runPairs_42 rfl ?_
    refine sm_getR 51 ii_wy_runPairs_43 fl_wy_19 (k := 49) rfl ?_
    refine sm_iload_n ii_wy_runPairs_46 rfl ?_
    refine sm_aload_n ii_wy_runPairs_47 rfl ?_
    refine sm_getRs ii_wy_runPairs_48 fl_wy_52 (fun r8 => ?_)
    refine sm_iconst (2 : Int32) ii_wy_runPairs_51 (by decide) ?_
    refine sm_iload_n ii_wy_runPairs_52 rfl ?_
    refine sm_imul ii_wy_runPairs_53 ?_
    refine sm_iconst (1 : Int32) ii_wy_runPairs_54 (by decide) ?_
    refine sm_iadd ii_wy_runPairs_55 ?_
    refine sm_ialds ii_wy_runPairs_56 (fun x9 => ?_)
    refine sm_iast ii_wy_runPairs_57 (k := 51) rfl (fun w10 => ?_)
    refine sm_iinc (a2 + (1 : Int32)) [some (.ref 49), some (.ref a1), some (.int (a2 + (1 : Int32)))] ii_wy_runPairs_58 rfl rfl rfl rfl ?_
    refine sm_goto 20 ii_wy_runPairs_61 (by decide) ?_
    exact hself20 (a1) ((a2 + (1 : Int32))) w10
set_option maxHeartbeats 4000000 in
set_option maxRecDepth 100000 in
theorem ss_wy_runPairs_20_f {E : Nat × (Nat → Int32)}  : ∀ (n : Nat) (a1 : Nat) (a2 : Int32) (w : sm_Mem), sm_Sim E (mi_wy_runPairs) 20 [some (.ref 49), some (.ref a1), some (.int a2)] [] w (ff_wy_runPairs_20_f  n a1 a2 w)
  | 0, _, _, _ => fun _ _ h => by cases h
  | n + 1, a1, a2, w => ss_wy_runPairs_20_b  _ (ss_wy_runPairs_20_f  n) a1 a2 w
set_option maxHeartbeats 4000000 in
set_option maxRecDepth 100000 in
theorem ss_wy_runPairs_20 {E : Nat × (Nat → Int32)}  (a1 : Nat) (a2 : Int32) (w : sm_Mem) : sm_Sim E (mi_wy_runPairs) 20 [some (.ref 49), some (.ref a1), some (.int a2)] [] w (ff_wy_runPairs_20  a1 a2 w) := ss_wy_runPairs_20_f  sm_N a1 a2 w
noncomputable def ff_wy_runPairs  (a1 : Nat) (w : sm_Mem) : sm_R := (Option.bind (sm_gI w a1 2 1) fun x11 => (if (2 : Int32) = (0 : Int32) then none else (sm_let (sm_wI w 49 3 (if (0 : Int32) < (if (5 : Int32) < (x11 / (2 : Int32)) then (5 : Int32) else (x11 / (2 : Int32))) then (if (5 : Int32) < (x11 / (2 : Int32)) then (5 : Int32) else (x11 / (2 : Int32))) else (0 : Int32))) fun w13 => ff_wy_runPairs_20 (a1) ((0 : Int32)) w13)))
set_option maxHeartbeats 4000000 in
set_option maxRecDepth 100000 in
theorem ss_wy_runPairs_0 {E : Nat × (Nat → Int32)}  (a1 : Nat) (w : sm_Mem) : sm_Sim E (mi_wy_runPairs) 0 [some (.ref 49), some (.ref a1), none] [] w (ff_wy_runPairs  a1 w) := by
  unfold ff_wy_runPairs
  refine sm_aload_n ii_wy_runPairs_0 rfl ?_
  refine sm_iconst (0 : Int32) ii_wy_runPairs_1 (by decide) ?_
  refine sm_aload_n ii_wy_runPairs_2 rfl ?_
  refine sm_getIs ii_wy_runPairs_3 fl_wy_34 (fun x11 => ?_)
  refine sm_iconst (2 : Int32) ii_wy_runPairs_6 (by decide) ?_
  refine sm_idiv ii_wy_runPairs_7 ?_
  refine sm_iconst (5 : Int32) ii_wy_runPairs_8 (by decide) ?_
  refine sm_mmin ii_wy_runPairs_9 mq_wy_40 mq_st_min mq_in mq_co_min (by decide) rfl ?_
  refine sm_mmax ii_wy_runPairs_12 mq_wy_46 mq_st_max mq_in mq_co_max (by decide) rfl ?_
  refine sm_putI ii_wy_runPairs_15 fp_wy_49 (k := 49) rfl (fun w13 => ?_)
  refine sm_iconst (0 : Int32) ii_wy_runPairs_18 (by decide) ?_
  refine sm_istore_n [some (.ref 49), some (.ref a1), some (.int (0 : Int32))] ii_wy_runPairs_19 rfl rfl ?_
  exact ss_wy_runPairs_20 (a1) ((0 : Int32)) w13
set_option maxHeartbeats 4000000 in
set_option maxRecDepth 100000 in
theorem mc_wy_runPairs (a1 : Nat) (w : sm_Mem) : sm_MC mi_wy_runPairs [.ref 49, .ref a1] w (ff_wy_runPairs a1 w) := sm_MC_of (0, fun _ => 0) (by decide +kernel) (by decide) rfl (Nat.le_of_ble_eq_true rfl) (ss_wy_runPairs_0 a1 w)
abbrev mi_ho_heard : sm_MI := (⟨"HerOrders", "heard", "(I)I"⟩, prog_1_method_29_code, 3, (some .int), 15)
set_option maxRecDepth 100000 in
theorem mf_ho_heard : sm_MF mi_ho_heard 1 := ⟨List.mem_of_getElem? (i := 741) (by decide +kernel), List.mem_of_getElem? (i := 124) (by decide +kernel), ⟨by decide, by decide⟩, by decide +kernel⟩
set_option maxRecDepth 100000 in
theorem mv_ho_heard : sm_MFV mi_ho_heard := ⟨List.mem_of_getElem? (i := 739) (by decide +kernel), List.mem_of_getElem? (i := 740) (by decide +kernel)⟩
set_option maxRecDepth 100000 in
theorem ii_ho_heard_0 : sm_D prog_1_method_29_code 0 1 1 (.aload_n 0) := ⟨by decide +kernel, rfl⟩
set_option maxRecDepth 100000 in
theorem ii_ho_heard_1 : sm_D prog_1_method_29_code 1 1 2 (.iload_n 1) := ⟨by decide +kernel, rfl⟩
set_option maxRecDepth 100000 in
theorem ii_ho_heard_2 : sm_D prog_1_method_29_code 2 3 5 (.invokevirtual 240) := ⟨by decide +kernel, rfl⟩
set_option maxRecDepth 100000 in
theorem ii_ho_heard_5 : sm_D prog_1_method_29_code 5 1 6 (.istore_n 2) := ⟨by decide +kernel, rfl⟩
set_option maxRecDepth 100000 in
theorem ii_ho_heard_6 : sm_D prog_1_method_29_code 6 1 7 (.iload_n 2) := ⟨by decide +kernel, rfl⟩
set_option maxRecDepth 100000 in
theorem ii_ho_heard_7 : sm_D prog_1_method_29_code 7 3 10 (.ifCond .eq 5) := ⟨by decide +kernel, rfl⟩
set_option maxRecDepth 100000 in
theorem ii_ho_heard_10 : sm_D prog_1_method_29_code 10 1 11 (.iload_n 2) := ⟨by decide +kernel, rfl⟩
set_option maxRecDepth 100000 in
theorem ii_ho_heard_11 : sm_D prog_1_method_29_code 11 1 12 (.ireturn) := ⟨by decide +kernel, rfl⟩
set_option maxRecDepth 100000 in
theorem ii_ho_heard_12 : sm_D prog_1_method_29_code 12 1 13 (.aload_n 0) := ⟨by decide +kernel, rfl⟩
set_option maxRecDepth 100000 in
theorem ii_ho_heard_13 : sm_D prog_1_method_29_code 13 3 16 (.getfield 40) := ⟨by decide +kernel, rfl⟩
set_option maxRecDepth 100000 in
theorem ii_ho_heard_16 : sm_D prog_1_method_29_code 16 1 17 (.aload_n 0) := ⟨by decide +kernel, rfl⟩
set_option maxRecDepth 100000 in
theorem ii_ho_heard_17 : sm_D prog_1_method_29_code 17 3 20 (.getfield 11) := ⟨by decide +kernel, rfl⟩
set_option maxRecDepth 100000 in
theorem ii_ho_heard_20 : sm_D prog_1_method_29_code 20 1 21 (.iload_n 1) := ⟨by decide +kernel, rfl⟩
set_option maxRecDepth 100000 in
theorem ii_ho_heard_21 : sm_D prog_1_method_29_code 21 1 22 (.aaload) := ⟨by decide +kernel, rfl⟩
set_option maxRecDepth 100000 in
theorem ii_ho_heard_22 : sm_D prog_1_method_29_code 22 3 25 (.invokevirtual 243) := ⟨by decide +kernel, rfl⟩
set_option maxRecDepth 100000 in
theorem ii_ho_heard_25 : sm_D prog_1_method_29_code 25 1 26 (.aload_n 0) := ⟨by decide +kernel, rfl⟩
set_option maxRecDepth 100000 in
theorem ii_ho_heard_26 : sm_D prog_1_method_29_code 26 3 29 (.getfield 54) := ⟨by decide +kernel, rfl⟩
set_option maxRecDepth 100000 in
theorem ii_ho_heard_29 : sm_D prog_1_method_29_code 29 1 30 (.aload_n 0) := ⟨by decide +kernel, rfl⟩
set_option maxRecDepth 100000 in
theorem ii_ho_heard_30 : sm_D prog_1_method_29_code 30 3 33 (.getfield 40) := ⟨by decide +kernel, rfl⟩
set_option maxRecDepth 100000 in
theorem ii_ho_heard_33 : sm_D prog_1_method_29_code 33 3 36 (.invokevirtual 199) := ⟨by decide +kernel, rfl⟩
set_option maxRecDepth 100000 in
theorem ii_ho_heard_36 : sm_D prog_1_method_29_code 36 1 37 (.i2l) := ⟨by decide +kernel, rfl⟩
set_option maxRecDepth 100000 in
theorem ii_ho_heard_37 : sm_D prog_1_method_29_code 37 1 38 (.lconst 1) := ⟨by decide +kernel, rfl⟩
set_option maxRecDepth 100000 in
theorem ii_ho_heard_38 : sm_D prog_1_method_29_code 38 3 41 (.invokevirtual 203) := ⟨by decide +kernel, rfl⟩
set_option maxRecDepth 100000 in
theorem ii_ho_heard_41 : sm_D prog_1_method_29_code 41 1 42 (.aload_n 0) := ⟨by decide +kernel, rfl⟩
set_option maxRecDepth 100000 in
theorem ii_ho_heard_42 : sm_D prog_1_method_29_code 42 3 45 (.getfield 54) := ⟨by decide +kernel, rfl⟩
set_option maxRecDepth 100000 in
theorem ii_ho_heard_45 : sm_D prog_1_method_29_code 45 1 46 (.aload_n 0) := ⟨by decide +kernel, rfl⟩
set_option maxRecDepth 100000 in
theorem ii_ho_heard_46 : sm_D prog_1_method_29_code 46 3 49 (.getfield 40) := ⟨by decide +kernel, rfl⟩
set_option maxRecDepth 100000 in
theorem ii_ho_heard_49 : sm_D prog_1_method_29_code 49 3 52 (.getfield 246) := ⟨by decide +kernel, rfl⟩
set_option maxRecDepth 100000 in
theorem ii_ho_heard_52 : sm_D prog_1_method_29_code 52 3 55 (.putfield 70) := ⟨by decide +kernel, rfl⟩
set_option maxRecDepth 100000 in
theorem ii_ho_heard_55 : sm_D prog_1_method_29_code 55 1 56 (.iconst 1) := ⟨by decide +kernel, rfl⟩
set_option maxRecDepth 100000 in
theorem ii_ho_heard_56 : sm_D prog_1_method_29_code 56 1 57 (.ireturn) := ⟨by decide +kernel, rfl⟩
noncomputable def ff_ho_heard  (a1 : Int32) (w : sm_Mem) : sm_R := (sm_cI (ff_ho_refusalOfPairs (a1) w) fun x1 w2 => (if x1 = (0 : Int32) then (Option.bind (sm_rr 1 a1) fun r3 => (sm_cV (ff_wy_runPairs (r3) w2) fun w5 => (sm_cI (ff_wy_fullWays  w5) fun x6 w7 => (sm_cV (ff_td_share ((Int32.toInt64 x6)) ((1 : Int64)) w7) fun w9 => (sm_let (sm_wI w9 60 0 (w9.1 49 9)) fun w10 => (some (.int (1 : Int32), w10))))))) else (some (.int x1, w2))))
set_option maxHeartbeats 4000000 in
set_option maxRecDepth 100000 in
theorem ss_ho_heard_0 {E : Nat × (Nat → Int32)}  (a1 : Int32) (w : sm_Mem) : sm_Sim E (mi_ho_heard) 0 [some (.ref 0), some (.int a1), none] [] w (ff_ho_heard  a1 w) := by
  unfold ff_ho_heard
  refine sm_aload_n ii_ho_heard_0 rfl ?_
  refine sm_iload_n ii_ho_heard_1 rfl ?_
  refine sm_cvI [.int a1] [] rfl ii_ho_heard_2 ml_ho_240 (mf_ho_refusalOfPairs) (mv_ho_refusalOfPairs) (Nat.le_of_ble_eq_true rfl) rfl 6 rfl rfl rfl rfl (mc_ho_refusalOfPairs (a1) w) (fun x1 w2 => ?_)
  refine sm_istore_n [some (.ref 0), some (.int a1), some (.int x1)] ii_ho_heard_5 rfl rfl ?_
  refine sm_iload_n ii_ho_heard_6 rfl ?_
  refine sm_if_eq 12 ii_ho_heard_7 (by decide) ?_ ?_
  · refine sm_aload_n ii_ho_heard_12 rfl ?_
    refine sm_getR 49 ii_ho_heard_13 fl_ho_40 (k := 0) rfl ?_
    refine sm_aload_n ii_ho_heard_16 rfl ?_
    refine sm_getR 1 ii_ho_heard_17 fl_ho_11 (k := 0) rfl ?_
    refine sm_iload_n ii_ho_heard_20 rfl ?_
    refine sm_aald ii_ho_heard_21 (fun r3 => ?_)
    refine sm_cvV [.ref r3] [] rfl ii_ho_heard_22 ml_ho_243 (mf_wy_runPairs) (mv_wy_runPairs) (Nat.le_of_ble_eq_true rfl) rfl 5 rfl rfl rfl rfl (mc_wy_runPairs (r3) w2) (fun w5 => ?_)
    refine sm_aload_n ii_ho_heard_25 rfl ?_
    refine sm_getR 60 ii_ho_heard_26 fl_ho_54 (k := 0) rfl ?_
    refine sm_aload_n ii_ho_heard_29 rfl ?_
    refine sm_getR 49 ii_ho_heard_30 fl_ho_40 (k := 0) rfl ?_
    refine sm_cvI [] [.ref 60] rfl ii_ho_heard_33 ml_ho_199 (mf_wy_fullWays) (mv_wy_fullWays) (Nat.le_of_ble_eq_true rfl) rfl 5 rfl rfl rfl rfl (mc_wy_fullWays  w5) (fun x6 w7 => ?_)
    refine sm_i2l ii_ho_heard_36 ?_
    refine sm_lconst (1 : Int64) ii_ho_heard_37 (by decide) ?_
    refine sm_cvV [.long (Int32.toInt64 x6), .long (1 : Int64)] [] rfl ii_ho_heard_38 ml_ho_203 (mf_td_share) (mv_td_share) (Nat.le_of_ble_eq_true rfl) rfl 3 rfl rfl rfl rfl (mc_td_share ((Int32.toInt64 x6)) ((1 : Int64)) w7) (fun w9 => ?_)
    refine sm_aload_n ii_ho_heard_41 rfl ?_
    refine sm_getR 60 ii_ho_heard_42 fl_ho_54 (k := 0) rfl ?_
    refine sm_aload_n ii_ho_heard_45 rfl ?_
    refine sm_getR 49 ii_ho_heard_46 fl_ho_40 (k := 0) rfl ?_
    refine sm_getI ii_ho_heard_49 fl_ho_246 (k := 49) rfl ?_
    refine sm_putI ii_ho_heard_52 fp_ho_70 (k := 60) rfl (fun w10 => ?_)
    refine sm_iconst (1 : Int32) ii_ho_heard_55 (by decide) ?_
    exact sm_iret ii_ho_heard_56 rfl
  · refine sm_iload_n ii_ho_heard_10 rfl ?_
    exact sm_iret ii_ho_heard_11 rfl
set_option maxHeartbeats 4000000 in
set_option maxRecDepth 100000 in
theorem mc_ho_heard (a1 : Int32) (w : sm_Mem) : sm_MC mi_ho_heard [.ref 0, .int a1] w (ff_ho_heard a1 w) := sm_MC_of (0, fun _ => 0) (by decide +kernel) (by decide) rfl (Nat.le_of_ble_eq_true rfl) (ss_ho_heard_0 a1 w)
abbrev mi_mo_heard : sm_MI := (⟨"HerOrdersModel", "heard", "(I)I"⟩, prog_9_method_77_code, 3, (some .int), 6)
set_option maxRecDepth 100000 in
theorem mf_mo_heard : sm_MF mi_mo_heard 1 := ⟨List.mem_of_getElem? (i := 1326) (by decide +kernel), List.mem_of_getElem? (i := 132) (by decide +kernel), ⟨by decide, by decide⟩, by decide +kernel⟩
set_option maxRecDepth 100000 in
theorem mv_mo_heard : sm_MFV mi_mo_heard := ⟨List.mem_of_getElem? (i := 1324) (by decide +kernel), List.mem_of_getElem? (i := 1325) (by decide +kernel)⟩
set_option maxRecDepth 100000 in
theorem ii_mo_heard_0 : sm_D prog_9_method_77_code 0 1 1 (.iload_n 1) := ⟨by decide +kernel, rfl⟩
set_option maxRecDepth 100000 in
theorem ii_mo_heard_1 : sm_D prog_9_method_77_code 1 3 4 (.invokestatic 77) := ⟨by decide +kernel, rfl⟩
set_option maxRecDepth 100000 in
theorem ii_mo_heard_4 : sm_D prog_9_method_77_code 4 3 7 (.ifCond .ne 5) := ⟨by decide +kernel, rfl⟩
set_option maxRecDepth 100000 in
theorem ii_mo_heard_7 : sm_D prog_9_method_77_code 7 1 8 (.iconst (-1)) := ⟨by decide +kernel, rfl⟩
set_option maxRecDepth 100000 in
theorem ii_mo_heard_8 : sm_D prog_9_method_77_code 8 1 9 (.ireturn) := ⟨by decide +kernel, rfl⟩
set_option maxRecDepth 100000 in
theorem ii_mo_heard_9 : sm_D prog_9_method_77_code 9 1 10 (.aload_n 0) := ⟨by decide +kernel, rfl⟩
set_option maxRecDepth 100000 in
theorem ii_mo_heard_10 : sm_D prog_9_method_77_code 10 1 11 (.iload_n 1) := ⟨by decide +kernel, rfl⟩
set_option maxRecDepth 100000 in
theorem ii_mo_heard_11 : sm_D prog_9_method_77_code 11 1 12 (.iconst 2) := ⟨by decide +kernel, rfl⟩
set_option maxRecDepth 100000 in
theorem ii_mo_heard_12 : sm_D prog_9_method_77_code 12 3 15 (.invokevirtual 242) := ⟨by decide +kernel, rfl⟩
set_option maxRecDepth 100000 in
theorem ii_mo_heard_15 : sm_D prog_9_method_77_code 15 1 16 (.istore_n 2) := ⟨by decide +kernel, rfl⟩
set_option maxRecDepth 100000 in
theorem ii_mo_heard_16 : sm_D prog_9_method_77_code 16 1 17 (.iload_n 2) := ⟨by decide +kernel, rfl⟩
set_option maxRecDepth 100000 in
theorem ii_mo_heard_17 : sm_D prog_9_method_77_code 17 3 20 (.ifCond .eq 5) := ⟨by decide +kernel, rfl⟩
set_option maxRecDepth 100000 in
theorem ii_mo_heard_20 : sm_D prog_9_method_77_code 20 1 21 (.iload_n 2) := ⟨by decide +kernel, rfl⟩
set_option maxRecDepth 100000 in
theorem ii_mo_heard_21 : sm_D prog_9_method_77_code 21 1 22 (.ireturn) := ⟨by decide +kernel, rfl⟩
set_option maxRecDepth 100000 in
theorem ii_mo_heard_22 : sm_D prog_9_method_77_code 22 1 23 (.aload_n 0) := ⟨by decide +kernel, rfl⟩
set_option maxRecDepth 100000 in
theorem ii_mo_heard_23 : sm_D prog_9_method_77_code 23 1 24 (.lconst 0) := ⟨by decide +kernel, rfl⟩
set_option maxRecDepth 100000 in
theorem ii_mo_heard_24 : sm_D prog_9_method_77_code 24 3 27 (.putfield 245) := ⟨by decide +kernel, rfl⟩
set_option maxRecDepth 100000 in
theorem ii_mo_heard_27 : sm_D prog_9_method_77_code 27 1 28 (.aload_n 0) := ⟨by decide +kernel, rfl⟩
set_option maxRecDepth 100000 in
theorem ii_mo_heard_28 : sm_D prog_9_method_77_code 28 1 29 (.lconst 1) := ⟨by decide +kernel, rfl⟩
set_option maxRecDepth 100000 in
theorem ii_mo_heard_29 : sm_D prog_9_method_77_code 29 3 32 (.putfield 34) := ⟨by decide +kernel, rfl⟩
set_option maxRecDepth 100000 in
theorem ii_mo_heard_32 : sm_D prog_9_method_77_code 32 1 33 (.aload_n 0) := ⟨by decide +kernel, rfl⟩
set_option maxRecDepth 100000 in
theorem ii_mo_heard_33 : sm_D prog_9_method_77_code 33 2 35 (.bipush (-9)) := ⟨by decide +kernel, rfl⟩
set_option maxRecDepth 100000 in
theorem ii_mo_heard_35 : sm_D prog_9_method_77_code 35 3 38 (.putfield 66) := ⟨by decide +kernel, rfl⟩
set_option maxRecDepth 100000 in
theorem ii_mo_heard_38 : sm_D prog_9_method_77_code 38 1 39 (.aload_n 0) := ⟨by decide +kernel, rfl⟩
set_option maxRecDepth 100000 in
theorem ii_mo_heard_39 : sm_D prog_9_method_77_code 39 3 42 (.invokevirtual 233) := ⟨by decide +kernel, rfl⟩
set_option maxRecDepth 100000 in
theorem ii_mo_heard_42 : sm_D prog_9_method_77_code 42 1 43 (.aload_n 0) := ⟨by decide +kernel, rfl⟩
set_option maxRecDepth 100000 in
theorem ii_mo_heard_43 : sm_D prog_9_method_77_code 43 3 46 (.invokevirtual 236) := ⟨by decide +kernel, rfl⟩
set_option maxRecDepth 100000 in
theorem ii_mo_heard_46 : sm_D prog_9_method_77_code 46 3 49 (.ifCond .eq 49) := ⟨by decide +kernel, rfl⟩
set_option maxRecDepth 100000 in
theorem ii_mo_heard_49 : sm_D prog_9_method_77_code 49 1 50 (.aload_n 0) := ⟨by decide +kernel, rfl⟩
set_option maxRecDepth 100000 in
theorem ii_mo_heard_50 : sm_D prog_9_method_77_code 50 1 51 (.aload_n 0) := ⟨by decide +kernel, rfl⟩
set_option maxRecDepth 100000 in
theorem ii_mo_heard_51 : sm_D prog_9_method_77_code 51 3 54 (.getfield 245) := ⟨by decide +kernel, rfl⟩
set_option maxRecDepth 100000 in
theorem ii_mo_heard_54 : sm_D prog_9_method_77_code 54 1 55 (.lconst 0) := ⟨by decide +kernel, rfl⟩
set_option maxRecDepth 100000 in
theorem ii_mo_heard_55 : sm_D prog_9_method_77_code 55 1 56 (.lcmp) := ⟨by decide +kernel, rfl⟩
set_option maxRecDepth 100000 in
theorem ii_mo_heard_56 : sm_D prog_9_method_77_code 56 3 59 (.ifCond .ne 19) := ⟨by decide +kernel, rfl⟩
set_option maxRecDepth 100000 in
theorem ii_mo_heard_59 : sm_D prog_9_method_77_code 59 1 60 (.aload_n 0) := ⟨by decide +kernel, rfl⟩
set_option maxRecDepth 100000 in
theorem ii_mo_heard_60 : sm_D prog_9_method_77_code 60 3 63 (.getfield 208) := ⟨by decide +kernel, rfl⟩
set_option maxRecDepth 100000 in
theorem ii_mo_heard_63 : sm_D prog_9_method_77_code 63 3 66 (.ifCond .le 12) := ⟨by decide +kernel, rfl⟩
set_option maxRecDepth 100000 in
theorem ii_mo_heard_66 : sm_D prog_9_method_77_code 66 1 67 (.aload_n 0) := ⟨by decide +kernel, rfl⟩
set_option maxRecDepth 100000 in
theorem ii_mo_heard_67 : sm_D prog_9_method_77_code 67 3 70 (.getfield 50) := ⟨by decide +kernel, rfl⟩
set_option maxRecDepth 100000 in
theorem ii_mo_heard_70 : sm_D prog_9_method_77_code 70 1 71 (.iconst 0) := ⟨by decide +kernel, rfl⟩
set_option maxRecDepth 100000 in
theorem ii_mo_heard_71 : sm_D prog_9_method_77_code 71 1 72 (.iaload) := ⟨by decide +kernel, rfl⟩
set_option maxRecDepth 100000 in
theorem ii_mo_heard_72 : sm_D prog_9_method_77_code 72 3 75 (.goto 7) := ⟨by decide +kernel, rfl⟩
set_option maxRecDepth 100000 in
theorem ii_mo_heard_75 : sm_D prog_9_method_77_code 75 1 76 (.aload_n 0) := ⟨by decide +kernel, rfl⟩
set_option maxRecDepth 100000 in
theorem ii_mo_heard_76 : sm_D prog_9_method_77_code 76 3 79 (.getfield 66) := ⟨by decide +kernel, rfl⟩
set_option maxRecDepth 100000 in
theorem ii_mo_heard_79 : sm_D prog_9_method_77_code 79 3 82 (.putfield 66) := ⟨by decide +kernel, rfl⟩
set_option maxRecDepth 100000 in
theorem ii_mo_heard_82 : sm_D prog_9_method_77_code 82 1 83 (.aload_n 0) := ⟨by decide +kernel, rfl⟩
set_option maxRecDepth 100000 in
theorem ii_mo_heard_83 : sm_D prog_9_method_77_code 83 1 84 (.dup) := ⟨by decide +kernel, rfl⟩
set_option maxRecDepth 100000 in
theorem ii_mo_heard_84 : sm_D prog_9_method_77_code 84 3 87 (.getfield 245) := ⟨by decide +kernel, rfl⟩
set_option maxRecDepth 100000 in
theorem ii_mo_heard_87 : sm_D prog_9_method_77_code 87 1 88 (.lconst 1) := ⟨by decide +kernel, rfl⟩
set_option maxRecDepth 100000 in
theorem ii_mo_heard_88 : sm_D prog_9_method_77_code 88 1 89 (.ladd) := ⟨by decide +kernel, rfl⟩
set_option maxRecDepth 100000 in
theorem ii_mo_heard_89 : sm_D prog_9_method_77_code 89 3 92 (.putfield 245) := ⟨by decide +kernel, rfl⟩
set_option maxRecDepth 100000 in
theorem ii_mo_heard_92 : sm_D prog_9_method_77_code 92 3 95 (.goto (-50)) := ⟨by decide +kernel, rfl⟩
set_option maxRecDepth 100000 in
theorem ii_mo_heard_95 : sm_D prog_9_method_77_code 95 1 96 (.iconst 1) := ⟨by decide +kernel, rfl⟩
set_option maxRecDepth 100000 in
theorem ii_mo_heard_96 : sm_D prog_9_method_77_code 96 1 97 (.ireturn) := ⟨by decide +kernel, rfl⟩
noncomputable def ff_mo_heard_79 (self42 : sm_Mem → sm_R) (b1 : Int32) (w : sm_Mem) : sm_R := (sm_let (sm_wI w 62 9 b1) fun w1 => (sm_let (sm_wL w1 62 10 ((w1.2 62 10) + (1 : Int64))) fun w2 => self42  w2))
set_option maxHeartbeats 4000000 in
set_option maxRecDepth 100000 in
theorem ss_mo_heard_79 {E : Nat × (Nat → Int32)} (self42 : sm_Mem → sm_R) (hself42 : ∀  (w : sm_Mem), sm_Sim E (mi_mo_heard) 42 [some (.ref 62), none, none] [] w (self42  w)) (b1 : Int32) (w : sm_Mem) : sm_Sim E (mi_mo_heard) 79 [some (.ref 62), none, none] [.int b1, .ref 62] w (ff_mo_heard_79 self42 b1 w) := by
  unfold ff_mo_heard_79
  refine sm_putI ii_mo_heard_79 fp_mo_66 (k := 62) rfl (fun w1 => ?_)
  refine sm_aload_n ii_mo_heard_82 rfl ?_
  refine sm_dupR ii_mo_heard_83 ?_
  refine sm_getL ii_mo_heard_84 fl_mo_245 (k := 62) rfl ?_
  refine sm_lconst (1 : Int64) ii_mo_heard_87 (by decide) ?_
  refine sm_ladd ii_mo_heard_88 ?_
  refine sm_putL ii_mo_heard_89 fp_mo_245 (k := 62) rfl (fun w2 => ?_)
  refine sm_goto 42 ii_mo_heard_92 (by decide) ?_
  exact hself42  w2
noncomputable def ff_mo_heard_75 (self42 : sm_Mem → sm_R)  (w : sm_Mem) : sm_R := ff_mo_heard_79 self42 ((w.1 62 9)) w
set_option maxHeartbeats 4000000 in
set_option maxRecDepth 100000 in
theorem ss_mo_heard_75 {E : Nat × (Nat → Int32)} (self42 : sm_Mem → sm_R) (hself42 : ∀  (w : sm_Mem), sm_Sim E (mi_mo_heard) 42 [some (.ref 62), none, none] [] w (self42  w))  (w : sm_Mem) : sm_Sim E (mi_mo_heard) 75 [some (.ref 62), none, none] [.ref 62] w (ff_mo_heard_75 self42  w) := by
  unfold ff_mo_heard_75
  refine sm_aload_n ii_mo_heard_75 rfl ?_
  refine sm_getI ii_mo_heard_76 fl_mo_66 (k := 62) rfl ?_
  exact ss_mo_heard_79 self42 hself42 ((w.1 62 9)) w
noncomputable def ff_mo_heard_42_b  (self42 : sm_Mem → sm_R)  (w : sm_Mem) : sm_R := (sm_cI (ff_mo_nextWay  w) fun x3 w4 => (if x3 = (0 : Int32) then (some (.int (1 : Int32), w4)) else (if (lg_cmp (w4.2 62 10) (0 : Int64)) = (0 : Int32) then (if (w4.1 62 21) ≤ (0 : Int32) then ff_mo_heard_75 self42  w4 else (Option.bind (sm_rd w4 75 6 (0 : Int32)) fun x5 => ff_mo_heard_79 self42 (x5) w4)) else ff_mo_heard_75 self42  w4)))
noncomputable def ff_mo_heard_42_f  : Nat → sm_Mem → sm_R
  | 0, _ => none
  | n + 1, w => ff_mo_heard_42_b  (ff_mo_heard_42_f  n)  w
noncomputable def ff_mo_heard_42   (w : sm_Mem) : sm_R := ff_mo_heard_42_f  sm_N  w
set_option maxHeartbeats 4000000 in
set_option maxRecDepth 100000 in
theorem ss_mo_heard_42_b {E : Nat × (Nat → Int32)}  (self42 : sm_Mem → sm_R) (hself42 : ∀  (w : sm_Mem), sm_Sim E (mi_mo_heard) 42 [some (.ref 62), none, none] [] w (self42  w))  (w : sm_Mem) : sm_Sim E (mi_mo_heard) 42 [some (.ref 62), none, none] [] w (ff_mo_heard_42_b  self42  w) := by
  unfold ff_mo_heard_42_b
  refine sm_aload_n ii_mo_heard_42 rfl ?_
  refine sm_cvI [] [] rfl ii_mo_heard_43 ml_mo_236 (mf_mo_nextWay) (mv_mo_nextWay) (Nat.le_of_ble_eq_true rfl) rfl 7 rfl rfl rfl rfl (mc_mo_nextWay  w) (fun x3 w4 => ?_)
  refine sm_if_eq 95 ii_mo_heard_46 (by decide) ?_ ?_
  · refine sm_iconst (1 : Int32) ii_mo_heard_95 (by decide) ?_
    exact sm_iret ii_mo_heard_96 rfl
  · refine sm_aload_n ii_mo_heard_49 rfl ?_
    refine sm_aload_n ii_mo_heard_50 rfl ?_
    refine sm_getL ii_mo_heard_51 fl_mo_245 (k := 62) rfl ?_
    refine sm_lconst (0 : Int64) ii_mo_heard_54 (by decide) ?_
    refine sm_lcmp ii_mo_heard_55 ?_
    refine sm_if_ne 75 ii_mo_heard_56 (by decide) ?_ ?_
    · refine sm_aload_n ii_mo_heard_59 rfl ?_
      refine sm_getI ii_mo_heard_60 fl_mo_208 (k := 62) rfl ?_
      refine sm_if_le 75 ii_mo_heard_63 (by decide) ?_ ?_
      · exact ss_mo_heard_75 self42 hself42  w4
      · refine sm_aload_n ii_mo_heard_66 rfl ?_
        refine sm_getR 75 ii_mo_heard_67 fl_mo_50 (k := 62) rfl ?_
        refine sm_iconst (0 : Int32) ii_mo_heard_70 (by decide) ?_
        refine sm_iald ii_mo_heard_71 (k := 75) rfl (fun x5 => ?_)
        refine sm_goto 79 ii_mo_heard_72 (by decide) ?_
        exact ss_mo_heard_79 self42 hself42 (x5) w4
    · exact ss_mo_heard_75 self42 hself42  w4
set_option maxHeartbeats 4000000 in
set_option maxRecDepth 100000 in
theorem ss_mo_heard_42_f {E : Nat × (Nat → Int32)}  : ∀ (n : Nat)  (w : sm_Mem), sm_Sim E (mi_mo_heard) 42 [some (.ref 62), none, none] [] w (ff_mo_heard_42_f  n  w)
  | 0, _ => fun _ _ h => by cases h
  | n + 1, w => ss_mo_heard_42_b  _ (ss_mo_heard_42_f  n)  w
set_option maxHeartbeats 4000000 in
set_option maxRecDepth 100000 in
theorem ss_mo_heard_42 {E : Nat × (Nat → Int32)}   (w : sm_Mem) : sm_Sim E (mi_mo_heard) 42 [some (.ref 62), none, none] [] w (ff_mo_heard_42   w) := ss_mo_heard_42_f  sm_N  w
noncomputable def ff_mo_heard  (a1 : Int32) (w : sm_Mem) : sm_R := (sm_cI (ff_mo_isRow (a1) w) fun x6 w7 => (if x6 = (0 : Int32) then (some (.int (-1 : Int32), w7)) else (sm_cI (ff_mo_noGoal (a1) ((2 : Int32)) w7) fun x8 w9 => (if x8 = (0 : Int32) then (sm_let (sm_wL w9 62 10 (0 : Int64)) fun w10 => (sm_let (sm_wL w10 62 11 (1 : Int64)) fun w11 => (sm_let (sm_wI w11 62 9 (-9 : Int32)) fun w12 => (sm_cV (ff_mo_beginWays  w12) fun w14 => ff_mo_heard_42  w14)))) else (some (.int x8, w9))))))
set_option maxHeartbeats 4000000 in
set_option maxRecDepth 100000 in
theorem ss_mo_heard_0 {E : Nat × (Nat → Int32)}  (a1 : Int32) (w : sm_Mem) : sm_Sim E (mi_mo_heard) 0 [some (.ref 62), some (.int a1), none] [] w (ff_mo_heard  a1 w) := by
  unfold ff_mo_heard
  refine sm_iload_n ii_mo_heard_0 rfl ?_
  refine sm_csI [.int a1] [] rfl ii_mo_heard_1 ml_mo_77 (mf_mo_isRow) (mv_mo_isRow) (Nat.le_of_ble_eq_true rfl) rfl rfl rfl (mc_mo_isRow (a1) w) (fun x6 w7 => ?_)
  refine sm_if_ne 9 ii_mo_heard_4 (by decide) ?_ ?_
  · refine sm_iconst (-1 : Int32) ii_mo_heard_7 (by decide) ?_
    exact sm_iret ii_mo_heard_8 rfl
  · refine sm_aload_n ii_mo_heard_9 rfl ?_
    refine sm_iload_n ii_mo_heard_10 rfl ?_
    refine sm_iconst (2 : Int32) ii_mo_heard_11 (by decide) ?_
    refine sm_cvI [.int a1, .int (2 : Int32)] [] rfl ii_mo_heard_12 ml_mo_242 (mf_mo_noGoal) (mv_mo_noGoal) (Nat.le_of_ble_eq_true rfl) rfl 7 rfl rfl rfl rfl (mc_mo_noGoal (a1) ((2 : Int32)) w7) (fun x8 w9 => ?_)
    refine sm_istore_n [some (.ref 62), some (.int a1), some (.int x8)] ii_mo_heard_15 rfl rfl ?_
    refine sm_iload_n ii_mo_heard_16 rfl ?_
    refine sm_if_eq 22 ii_mo_heard_17 (by decide) ?_ ?_
    · refine sm_aload_n ii_mo_heard_22 rfl ?_
      refine sm_lconst (0 : Int64) ii_mo_heard_23 (by decide) ?_
      refine sm_putL ii_mo_heard_24 fp_mo_245 (k := 62) rfl (fun w10 => ?_)
      refine sm_aload_n ii_mo_heard_27 rfl ?_
      refine sm_lconst (1 : Int64) ii_mo_heard_28 (by decide) ?_
      refine sm_putL ii_mo_heard_29 fp_mo_34 (k := 62) rfl (fun w11 => ?_)
      refine sm_aload_n ii_mo_heard_32 rfl ?_
      refine sm_bipush (-9 : Int32) ii_mo_heard_33 (by decide) ?_
      refine sm_putI ii_mo_heard_35 fp_mo_66 (k := 62) rfl (fun w12 => ?_)
      refine sm_aload_n ii_mo_heard_38 rfl ?_
      refine sm_cvV [] [] rfl ii_mo_heard_39 ml_mo_233 (mf_mo_beginWays) (mv_mo_beginWays) (Nat.le_of_ble_eq_true rfl) rfl 7 rfl rfl rfl rfl (mc_mo_beginWays  w12) (fun w14 => ?_)
      refine sm_msk [true, false, false] [some (.ref 62), none, none] rfl ?_
      exact ss_mo_heard_42  w14
    · refine sm_iload_n ii_mo_heard_20 rfl ?_
      exact sm_iret ii_mo_heard_21 rfl
set_option maxHeartbeats 4000000 in
set_option maxRecDepth 100000 in
theorem mc_mo_heard (a1 : Int32) (w : sm_Mem) : sm_MC mi_mo_heard [.ref 62, .int a1] w (ff_mo_heard a1 w) := sm_MC_of (0, fun _ => 0) (by decide +kernel) (by decide) rfl (Nat.le_of_ble_eq_true rfl) (ss_mo_heard_0 a1 w)
abbrev mi_hs_allSpeakers : sm_MI := (⟨"HerOrders$House", "allSpeakers", "()I"⟩, prog_3_method_25_code, 1, (some .int), 1)
set_option maxRecDepth 100000 in
theorem mf_hs_allSpeakers : sm_MF mi_hs_allSpeakers 0 := ⟨List.mem_of_getElem? (i := 761) (by decide +kernel), List.mem_of_getElem? (i := 128) (by decide +kernel), ⟨by decide, by decide⟩, by decide +kernel⟩
set_option maxRecDepth 100000 in
theorem mv_hs_allSpeakers : sm_MFV mi_hs_allSpeakers := ⟨List.mem_of_getElem? (i := 760) (by decide +kernel), List.mem_of_getElem? (i := 50) (by decide +kernel)⟩
set_option maxRecDepth 100000 in
theorem ii_hs_allSpeakers_0 : sm_D prog_3_method_25_code 0 1 1 (.iconst 1) := ⟨by decide +kernel, rfl⟩
set_option maxRecDepth 100000 in
theorem ii_hs_allSpeakers_1 : sm_D prog_3_method_25_code 1 1 2 (.aload_n 0) := ⟨by decide +kernel, rfl⟩
set_option maxRecDepth 100000 in
theorem ii_hs_allSpeakers_2 : sm_D prog_3_method_25_code 2 3 5 (.getfield 45) := ⟨by decide +kernel, rfl⟩
set_option maxRecDepth 100000 in
theorem ii_hs_allSpeakers_5 : sm_D prog_3_method_25_code 5 1 6 (.ishl) := ⟨by decide +kernel, rfl⟩
set_option maxRecDepth 100000 in
theorem ii_hs_allSpeakers_6 : sm_D prog_3_method_25_code 6 1 7 (.iconst 1) := ⟨by decide +kernel, rfl⟩
set_option maxRecDepth 100000 in
theorem ii_hs_allSpeakers_7 : sm_D prog_3_method_25_code 7 1 8 (.isub) := ⟨by decide +kernel, rfl⟩
set_option maxRecDepth 100000 in
theorem ii_hs_allSpeakers_8 : sm_D prog_3_method_25_code 8 1 9 (.ireturn) := ⟨by decide +kernel, rfl⟩
noncomputable def ff_hs_allSpeakers   (w : sm_Mem) : sm_R := (some (.int (((1 : Int32) <<< ((w.1 36 0) &&& (31 : Int32))) - (1 : Int32)), w))
set_option maxHeartbeats 4000000 in
set_option maxRecDepth 100000 in
theorem ss_hs_allSpeakers_0 {E : Nat × (Nat → Int32)}   (w : sm_Mem) : sm_Sim E (mi_hs_allSpeakers) 0 [some (.ref 36)] [] w (ff_hs_allSpeakers   w) := by
  unfold ff_hs_allSpeakers
  refine sm_iconst (1 : Int32) ii_hs_allSpeakers_0 (by decide) ?_
  refine sm_aload_n ii_hs_allSpeakers_1 rfl ?_
  refine sm_getI ii_hs_allSpeakers_2 fl_hs_45 (k := 36) rfl ?_
  refine sm_ishl ii_hs_allSpeakers_5 ?_
  refine sm_iconst (1 : Int32) ii_hs_allSpeakers_6 (by decide) ?_
  refine sm_isub ii_hs_allSpeakers_7 ?_
  exact sm_iret ii_hs_allSpeakers_8 rfl
set_option maxHeartbeats 4000000 in
set_option maxRecDepth 100000 in
theorem mc_hs_allSpeakers  (w : sm_Mem) : sm_MC mi_hs_allSpeakers [.ref 36] w (ff_hs_allSpeakers  w) := sm_MC_of (0, fun _ => 0) (by decide +kernel) (by decide) rfl (Nat.le_of_ble_eq_true rfl) (ss_hs_allSpeakers_0  w)
abbrev mi_ho_sure : sm_MI := (⟨"HerOrders", "sure", "(I)I"⟩, prog_1_method_30_code, 3, (some .int), 15)
set_option maxRecDepth 100000 in
theorem mf_ho_sure : sm_MF mi_ho_sure 1 := ⟨List.mem_of_getElem? (i := 757) (by decide +kernel), List.mem_of_getElem? (i := 124) (by decide +kernel), ⟨by decide, by decide⟩, by decide +kernel⟩
set_option maxRecDepth 100000 in
theorem mv_ho_sure : sm_MFV mi_ho_sure := ⟨List.mem_of_getElem? (i := 755) (by decide +kernel), List.mem_of_getElem? (i := 756) (by decide +kernel)⟩
set_option maxRecDepth 100000 in
theorem ii_ho_sure_0 : sm_D prog_1_method_30_code 0 1 1 (.aload_n 0) := ⟨by decide +kernel, rfl⟩
set_option maxRecDepth 100000 in
theorem ii_ho_sure_1 : sm_D prog_1_method_30_code 1 1 2 (.iload_n 1) := ⟨by decide +kernel, rfl⟩
set_option maxRecDepth 100000 in
theorem ii_ho_sure_2 : sm_D prog_1_method_30_code 2 3 5 (.invokevirtual 240) := ⟨by decide +kernel, rfl⟩
set_option maxRecDepth 100000 in
theorem ii_ho_sure_5 : sm_D prog_1_method_30_code 5 1 6 (.istore_n 2) := ⟨by decide +kernel, rfl⟩
set_option maxRecDepth 100000 in
theorem ii_ho_sure_6 : sm_D prog_1_method_30_code 6 1 7 (.iload_n 2) := ⟨by decide +kernel, rfl⟩
set_option maxRecDepth 100000 in
theorem ii_ho_sure_7 : sm_D prog_1_method_30_code 7 3 10 (.ifCond .eq 5) := ⟨by decide +kernel, rfl⟩
set_option maxRecDepth 100000 in
theorem ii_ho_sure_10 : sm_D prog_1_method_30_code 10 1 11 (.iload_n 2) := ⟨by decide +kernel, rfl⟩
set_option maxRecDepth 100000 in
theorem ii_ho_sure_11 : sm_D prog_1_method_30_code 11 1 12 (.ireturn) := ⟨by decide +kernel, rfl⟩
set_option maxRecDepth 100000 in
theorem ii_ho_sure_12 : sm_D prog_1_method_30_code 12 1 13 (.aload_n 0) := ⟨by decide +kernel, rfl⟩
set_option maxRecDepth 100000 in
theorem ii_ho_sure_13 : sm_D prog_1_method_30_code 13 3 16 (.getfield 40) := ⟨by decide +kernel, rfl⟩
set_option maxRecDepth 100000 in
theorem ii_ho_sure_16 : sm_D prog_1_method_30_code 16 1 17 (.aload_n 0) := ⟨by decide +kernel, rfl⟩
set_option maxRecDepth 100000 in
theorem ii_ho_sure_17 : sm_D prog_1_method_30_code 17 3 20 (.getfield 11) := ⟨by decide +kernel, rfl⟩
set_option maxRecDepth 100000 in
theorem ii_ho_sure_20 : sm_D prog_1_method_30_code 20 1 21 (.iload_n 1) := ⟨by decide +kernel, rfl⟩
set_option maxRecDepth 100000 in
theorem ii_ho_sure_21 : sm_D prog_1_method_30_code 21 1 22 (.aaload) := ⟨by decide +kernel, rfl⟩
set_option maxRecDepth 100000 in
theorem ii_ho_sure_22 : sm_D prog_1_method_30_code 22 3 25 (.invokevirtual 243) := ⟨by decide +kernel, rfl⟩
set_option maxRecDepth 100000 in
theorem ii_ho_sure_25 : sm_D prog_1_method_30_code 25 1 26 (.aload_n 0) := ⟨by decide +kernel, rfl⟩
set_option maxRecDepth 100000 in
theorem ii_ho_sure_26 : sm_D prog_1_method_30_code 26 3 29 (.getfield 40) := ⟨by decide +kernel, rfl⟩
set_option maxRecDepth 100000 in
theorem ii_ho_sure_29 : sm_D prog_1_method_30_code 29 3 32 (.invokevirtual 199) := ⟨by decide +kernel, rfl⟩
set_option maxRecDepth 100000 in
theorem ii_ho_sure_32 : sm_D prog_1_method_30_code 32 3 35 (.ifCond .ne 12) := ⟨by decide +kernel, rfl⟩
set_option maxRecDepth 100000 in
theorem ii_ho_sure_35 : sm_D prog_1_method_30_code 35 1 36 (.aload_n 0) := ⟨by decide +kernel, rfl⟩
set_option maxRecDepth 100000 in
theorem ii_ho_sure_36 : sm_D prog_1_method_30_code 36 3 39 (.getfield 54) := ⟨by decide +kernel, rfl⟩
set_option maxRecDepth 100000 in
theorem ii_ho_sure_39 : sm_D prog_1_method_30_code 39 1 40 (.iconst 4) := ⟨by decide +kernel, rfl⟩
set_option maxRecDepth 100000 in
theorem ii_ho_sure_40 : sm_D prog_1_method_30_code 40 3 43 (.invokevirtual 85) := ⟨by decide +kernel, rfl⟩
set_option maxRecDepth 100000 in
theorem ii_ho_sure_43 : sm_D prog_1_method_30_code 43 1 44 (.ireturn) := ⟨by decide +kernel, rfl⟩
set_option maxRecDepth 100000 in
theorem ii_ho_sure_44 : sm_D prog_1_method_30_code 44 1 45 (.aload_n 0) := ⟨by decide +kernel, rfl⟩
set_option maxRecDepth 100000 in
theorem ii_ho_sure_45 : sm_D prog_1_method_30_code 45 3 48 (.getfield 54) := ⟨by decide +kernel, rfl⟩
set_option maxRecDepth 100000 in
theorem ii_ho_sure_48 : sm_D prog_1_method_30_code 48 1 49 (.aload_n 0) := ⟨by decide +kernel, rfl⟩
set_option maxRecDepth 100000 in
theorem ii_ho_sure_49 : sm_D prog_1_method_30_code 49 3 52 (.getfield 31) := ⟨by decide +kernel, rfl⟩
set_option maxRecDepth 100000 in
theorem ii_ho_sure_52 : sm_D prog_1_method_30_code 52 3 55 (.invokevirtual 249) := ⟨by decide +kernel, rfl⟩
set_option maxRecDepth 100000 in
theorem ii_ho_sure_55 : sm_D prog_1_method_30_code 55 1 56 (.aload_n 0) := ⟨by decide +kernel, rfl⟩
set_option maxRecDepth 100000 in
theorem ii_ho_sure_56 : sm_D prog_1_method_30_code 56 3 59 (.getfield 40) := ⟨by decide +kernel, rfl⟩
set_option maxRecDepth 100000 in
theorem ii_ho_sure_59 : sm_D prog_1_method_30_code 59 3 62 (.getfield 252) := ⟨by decide +kernel, rfl⟩
set_option maxRecDepth 100000 in
theorem ii_ho_sure_62 : sm_D prog_1_method_30_code 62 1 63 (.iconst (-1)) := ⟨by decide +kernel, rfl⟩
set_option maxRecDepth 100000 in
theorem ii_ho_sure_63 : sm_D prog_1_method_30_code 63 1 64 (.ixor) := ⟨by decide +kernel, rfl⟩
set_option maxRecDepth 100000 in
theorem ii_ho_sure_64 : sm_D prog_1_method_30_code 64 1 65 (.iand) := ⟨by decide +kernel, rfl⟩
set_option maxRecDepth 100000 in
theorem ii_ho_sure_65 : sm_D prog_1_method_30_code 65 3 68 (.putfield 70) := ⟨by decide +kernel, rfl⟩
set_option maxRecDepth 100000 in
theorem ii_ho_sure_68 : sm_D prog_1_method_30_code 68 1 69 (.aload_n 0) := ⟨by decide +kernel, rfl⟩
set_option maxRecDepth 100000 in
theorem ii_ho_sure_69 : sm_D prog_1_method_30_code 69 3 72 (.getfield 40) := ⟨by decide +kernel, rfl⟩
set_option maxRecDepth 100000 in
theorem ii_ho_sure_72 : sm_D prog_1_method_30_code 72 3 75 (.invokevirtual 207) := ⟨by decide +kernel, rfl⟩
set_option maxRecDepth 100000 in
theorem ii_ho_sure_75 : sm_D prog_1_method_30_code 75 1 76 (.ireturn) := ⟨by decide +kernel, rfl⟩
noncomputable def ff_ho_sure  (a1 : Int32) (w : sm_Mem) : sm_R := (sm_cI (ff_ho_refusalOfPairs (a1) w) fun x1 w2 => (if x1 = (0 : Int32) then (Option.bind (sm_rr 1 a1) fun r3 => (sm_cV (ff_wy_runPairs (r3) w2) fun w5 => (sm_cI (ff_wy_fullWays  w5) fun x6 w7 => (if x6 = (0 : Int32) then (sm_cI (ff_td_refuse ((4 : Int32)) w7) fun x13 w14 => (some (.int x13, w14))) else (sm_cI (ff_hs_allSpeakers  w7) fun x8 w9 => (sm_let (sm_wI w9 60 0 (x8 &&& ((w9.1 49 11) ^^^ (-1 : Int32)))) fun w10 => (sm_cI (ff_wy_inAll  w10) fun x11 w12 => (some (.int x11, w12))))))))) else (some (.int x1, w2))))
set_option maxHeartbeats 4000000 in
set_option maxRecDepth 100000 in
theorem ss_ho_sure_0 {E : Nat × (Nat → Int32)}  (a1 : Int32) (w : sm_Mem) : sm_Sim E (mi_ho_sure) 0 [some (.ref 0), some (.int a1), none] [] w (ff_ho_sure  a1 w) := by
  unfold ff_ho_sure
  refine sm_aload_n ii_ho_sure_0 rfl ?_
  refine sm_iload_n ii_ho_sure_1 rfl ?_
  refine sm_cvI [.int a1] [] rfl ii_ho_sure_2 ml_ho_240 (mf_ho_refusalOfPairs) (mv_ho_refusalOfPairs) (Nat.le_of_ble_eq_true rfl) rfl 6 rfl rfl rfl rfl (mc_ho_refusalOfPairs (a1) w) (fun x1 w2 => ?_)
  refine sm_istore_n [some (.ref 0), some (.int a1), some (.int x1)] ii_ho_sure_5 rfl rfl ?_
  refine sm_iload_n ii_ho_sure_6 rfl ?_
  refine sm_if_eq 12 ii_ho_sure_7 (by decide) ?_ ?_
  · refine sm_aload_n ii_ho_sure_12 rfl ?_
    refine sm_getR 49 ii_ho_sure_13 fl_ho_40 (k := 0) rfl ?_
    refine sm_aload_n ii_ho_sure_16 rfl ?_
    refine sm_getR 1 ii_ho_sure_17 fl_ho_11 (k := 0) rfl ?_
    refine sm_iload_n ii_ho_sure_20 rfl ?_
    refine sm_aald ii_ho_sure_21 (fun r3 => ?_)
    refine sm_cvV [.ref r3] [] rfl ii_ho_sure_22 ml_ho_243 (mf_wy_runPairs) (mv_wy_runPairs) (Nat.le_of_ble_eq_true rfl) rfl 5 rfl rfl rfl rfl (mc_wy_runPairs (r3) w2) (fun w5 => ?_)
    refine sm_aload_n ii_ho_sure_25 rfl ?_
    refine sm_getR 49 ii_ho_sure_26 fl_ho_40 (k := 0) rfl ?_
    refine sm_cvI [] [] rfl ii_ho_sure_29 ml_ho_199 (mf_wy_fullWays) (mv_wy_fullWays) (Nat.le_of_ble_eq_true rfl) rfl 5 rfl rfl rfl rfl (mc_wy_fullWays  w5) (fun x6 w7 => ?_)
    refine sm_if_ne 44 ii_ho_sure_32 (by decide) ?_ ?_
    · refine sm_aload_n ii_ho_sure_35 rfl ?_
      refine sm_getR 60 ii_ho_sure_36 fl_ho_54 (k := 0) rfl ?_
      refine sm_iconst (4 : Int32) ii_ho_sure_39 (by decide) ?_
      refine sm_cvI [.int (4 : Int32)] [] rfl ii_ho_sure_40 ml_ho_85 (mf_td_refuse) (mv_td_refuse) (Nat.le_of_ble_eq_true rfl) rfl 3 rfl rfl rfl rfl (mc_td_refuse ((4 : Int32)) w7) (fun x13 w14 => ?_)
      exact sm_iret ii_ho_sure_43 rfl
    · refine sm_aload_n ii_ho_sure_44 rfl ?_
      refine sm_getR 60 ii_ho_sure_45 fl_ho_54 (k := 0) rfl ?_
      refine sm_aload_n ii_ho_sure_48 rfl ?_
      refine sm_getR 36 ii_ho_sure_49 fl_ho_31 (k := 0) rfl ?_
      refine sm_cvI [] [.ref 60] rfl ii_ho_sure_52 ml_ho_249 (mf_hs_allSpeakers) (mv_hs_allSpeakers) (Nat.le_of_ble_eq_true rfl) rfl 1 rfl rfl rfl rfl (mc_hs_allSpeakers  w7) (fun x8 w9 => ?_)
      refine sm_aload_n ii_ho_sure_55 rfl ?_
      refine sm_getR 49 ii_ho_sure_56 fl_ho_40 (k := 0) rfl ?_
      refine sm_getI ii_ho_sure_59 fl_ho_252 (k := 49) rfl ?_
      refine sm_iconst (-1 : Int32) ii_ho_sure_62 (by decide) ?_
      refine sm_ixor ii_ho_sure_63 ?_
      refine sm_iand ii_ho_sure_64 ?_
      refine sm_putI ii_ho_sure_65 fp_ho_70 (k := 60) rfl (fun w10 => ?_)
      refine sm_aload_n ii_ho_sure_68 rfl ?_
      refine sm_getR 49 ii_ho_sure_69 fl_ho_40 (k := 0) rfl ?_
      refine sm_cvI [] [] rfl ii_ho_sure_72 ml_ho_207 (mf_wy_inAll) (mv_wy_inAll) (Nat.le_of_ble_eq_true rfl) rfl 5 rfl rfl rfl rfl (mc_wy_inAll  w10) (fun x11 w12 => ?_)
      exact sm_iret ii_ho_sure_75 rfl
  · refine sm_iload_n ii_ho_sure_10 rfl ?_
    exact sm_iret ii_ho_sure_11 rfl
set_option maxHeartbeats 4000000 in
set_option maxRecDepth 100000 in
theorem mc_ho_sure (a1 : Int32) (w : sm_Mem) : sm_MC mi_ho_sure [.ref 0, .int a1] w (ff_ho_sure a1 w) := sm_MC_of (0, fun _ => 0) (by decide +kernel) (by decide) rfl (Nat.le_of_ble_eq_true rfl) (ss_ho_sure_0 a1 w)
abbrev mi_mo_sure : sm_MI := (⟨"HerOrdersModel", "sure", "(I)I"⟩, prog_9_method_78_code, 6, (some .int), 6)
set_option maxRecDepth 100000 in
theorem mf_mo_sure : sm_MF mi_mo_sure 1 := ⟨List.mem_of_getElem? (i := 1330) (by decide +kernel), List.mem_of_getElem? (i := 132) (by decide +kernel), ⟨by decide, by decide⟩, by decide +kernel⟩
set_option maxRecDepth 100000 in
theorem mv_mo_sure : sm_MFV mi_mo_sure := ⟨List.mem_of_getElem? (i := 1328) (by decide +kernel), List.mem_of_getElem? (i := 1329) (by decide +kernel)⟩
set_option maxRecDepth 100000 in
theorem ii_mo_sure_0 : sm_D prog_9_method_78_code 0 1 1 (.iload_n 1) := ⟨by decide +kernel, rfl⟩
set_option maxRecDepth 100000 in
theorem ii_mo_sure_1 : sm_D prog_9_method_78_code 1 3 4 (.invokestatic 77) := ⟨by decide +kernel, rfl⟩
set_option maxRecDepth 100000 in
theorem ii_mo_sure_4 : sm_D prog_9_method_78_code 4 3 7 (.ifCond .ne 5) := ⟨by decide +kernel, rfl⟩
set_option maxRecDepth 100000 in
theorem ii_mo_sure_7 : sm_D prog_9_method_78_code 7 1 8 (.iconst (-1)) := ⟨by decide +kernel, rfl⟩
set_option maxRecDepth 100000 in
theorem ii_mo_sure_8 : sm_D prog_9_method_78_code 8 1 9 (.ireturn) := ⟨by decide +kernel, rfl⟩
set_option maxRecDepth 100000 in
theorem ii_mo_sure_9 : sm_D prog_9_method_78_code 9 1 10 (.aload_n 0) := ⟨by decide +kernel, rfl⟩
set_option maxRecDepth 100000 in
theorem ii_mo_sure_10 : sm_D prog_9_method_78_code 10 1 11 (.iload_n 1) := ⟨by decide +kernel, rfl⟩
set_option maxRecDepth 100000 in
theorem ii_mo_sure_11 : sm_D prog_9_method_78_code 11 1 12 (.iconst 2) := ⟨by decide +kernel, rfl⟩
set_option maxRecDepth 100000 in
theorem ii_mo_sure_12 : sm_D prog_9_method_78_code 12 3 15 (.invokevirtual 242) := ⟨by decide +kernel, rfl⟩
set_option maxRecDepth 100000 in
theorem ii_mo_sure_15 : sm_D prog_9_method_78_code 15 1 16 (.istore_n 2) := ⟨by decide +kernel, rfl⟩
set_option maxRecDepth 100000 in
theorem ii_mo_sure_16 : sm_D prog_9_method_78_code 16 1 17 (.iload_n 2) := ⟨by decide +kernel, rfl⟩
set_option maxRecDepth 100000 in
theorem ii_mo_sure_17 : sm_D prog_9_method_78_code 17 3 20 (.ifCond .eq 5) := ⟨by decide +kernel, rfl⟩
set_option maxRecDepth 100000 in
theorem ii_mo_sure_20 : sm_D prog_9_method_78_code 20 1 21 (.iload_n 2) := ⟨by decide +kernel, rfl⟩
set_option maxRecDepth 100000 in
theorem ii_mo_sure_21 : sm_D prog_9_method_78_code 21 1 22 (.ireturn) := ⟨by decide +kernel, rfl⟩
set_option maxRecDepth 100000 in
theorem ii_mo_sure_22 : sm_D prog_9_method_78_code 22 2 24 (.bipush 63) := ⟨by decide +kernel, rfl⟩
set_option maxRecDepth 100000 in
theorem ii_mo_sure_24 : sm_D prog_9_method_78_code 24 1 25 (.istore_n 3) := ⟨by decide +kernel, rfl⟩
set_option maxRecDepth 100000 in
theorem ii_mo_sure_25 : sm_D prog_9_method_78_code 25 1 26 (.iconst 0) := ⟨by decide +kernel, rfl⟩
set_option maxRecDepth 100000 in
theorem ii_mo_sure_26 : sm_D prog_9_method_78_code 26 2 28 (.istore 4) := ⟨by decide +kernel, rfl⟩
set_option maxRecDepth 100000 in
theorem ii_mo_sure_28 : sm_D prog_9_method_78_code 28 1 29 (.iconst 0) := ⟨by decide +kernel, rfl⟩
set_option maxRecDepth 100000 in
theorem ii_mo_sure_29 : sm_D prog_9_method_78_code 29 2 31 (.istore 5) := ⟨by decide +kernel, rfl⟩
set_option maxRecDepth 100000 in
theorem ii_mo_sure_31 : sm_D prog_9_method_78_code 31 1 32 (.aload_n 0) := ⟨by decide +kernel, rfl⟩
set_option maxRecDepth 100000 in
theorem ii_mo_sure_32 : sm_D prog_9_method_78_code 32 3 35 (.invokevirtual 233) := ⟨by decide +kernel, rfl⟩
set_option maxRecDepth 100000 in
theorem ii_mo_sure_35 : sm_D prog_9_method_78_code 35 1 36 (.aload_n 0) := ⟨by decide +kernel, rfl⟩
set_option maxRecDepth 100000 in
theorem ii_mo_sure_36 : sm_D prog_9_method_78_code 36 3 39 (.invokevirtual 236) := ⟨by decide +kernel, rfl⟩
set_option maxRecDepth 100000 in
theorem ii_mo_sure_39 : sm_D prog_9_method_78_code 39 3 42 (.ifCond .eq 25) := ⟨by decide +kernel, rfl⟩
set_option maxRecDepth 100000 in
theorem ii_mo_sure_42 : sm_D prog_9_method_78_code 42 1 43 (.iconst 1) := ⟨by decide +kernel, rfl⟩
set_option maxRecDepth 100000 in
theorem ii_mo_sure_43 : sm_D prog_9_method_78_code 43 2 45 (.istore 5) := ⟨by decide +kernel, rfl⟩
set_option maxRecDepth 100000 in
theorem ii_mo_sure_45 : sm_D prog_9_method_78_code 45 1 46 (.iload_n 3) := ⟨by decide +kernel, rfl⟩
set_option maxRecDepth 100000 in
theorem ii_mo_sure_46 : sm_D prog_9_method_78_code 46 1 47 (.aload_n 0) := ⟨by decide +kernel, rfl⟩
set_option maxRecDepth 100000 in
theorem ii_mo_sure_47 : sm_D prog_9_method_78_code 47 3 50 (.invokevirtual 248) := ⟨by decide +kernel, rfl⟩
set_option maxRecDepth 100000 in
theorem ii_mo_sure_50 : sm_D prog_9_method_78_code 50 1 51 (.iand) := ⟨by decide +kernel, rfl⟩
set_option maxRecDepth 100000 in
theorem ii_mo_sure_51 : sm_D prog_9_method_78_code 51 1 52 (.istore_n 3) := ⟨by decide +kernel, rfl⟩
set_option maxRecDepth 100000 in
theorem ii_mo_sure_52 : sm_D prog_9_method_78_code 52 2 54 (.iload 4) := ⟨by decide +kernel, rfl⟩
set_option maxRecDepth 100000 in
theorem ii_mo_sure_54 : sm_D prog_9_method_78_code 54 1 55 (.aload_n 0) := ⟨by decide +kernel, rfl⟩
set_option maxRecDepth 100000 in
theorem ii_mo_sure_55 : sm_D prog_9_method_78_code 55 3 58 (.invokevirtual 248) := ⟨by decide +kernel, rfl⟩
set_option maxRecDepth 100000 in
theorem ii_mo_sure_58 : sm_D prog_9_method_78_code 58 1 59 (.ior) := ⟨by decide +kernel, rfl⟩
set_option maxRecDepth 100000 in
theorem ii_mo_sure_59 : sm_D prog_9_method_78_code 59 2 61 (.istore 4) := ⟨by decide +kernel, rfl⟩
set_option maxRecDepth 100000 in
theorem ii_mo_sure_61 : sm_D prog_9_method_78_code 61 3 64 (.goto (-26)) := ⟨by decide +kernel, rfl⟩
set_option maxRecDepth 100000 in
theorem ii_mo_sure_64 : sm_D prog_9_method_78_code 64 2 66 (.iload 5) := ⟨by decide +kernel, rfl⟩
set_option maxRecDepth 100000 in
theorem ii_mo_sure_66 : sm_D prog_9_method_78_code 66 3 69 (.ifCond .ne 9) := ⟨by decide +kernel, rfl⟩
set_option maxRecDepth 100000 in
theorem ii_mo_sure_69 : sm_D prog_9_method_78_code 69 1 70 (.aload_n 0) := ⟨by decide +kernel, rfl⟩
set_option maxRecDepth 100000 in
theorem ii_mo_sure_70 : sm_D prog_9_method_78_code 70 1 71 (.iconst 4) := ⟨by decide +kernel, rfl⟩
set_option maxRecDepth 100000 in
theorem ii_mo_sure_71 : sm_D prog_9_method_78_code 71 3 74 (.invokevirtual 81) := ⟨by decide +kernel, rfl⟩
set_option maxRecDepth 100000 in
theorem ii_mo_sure_74 : sm_D prog_9_method_78_code 74 1 75 (.ireturn) := ⟨by decide +kernel, rfl⟩
set_option maxRecDepth 100000 in
theorem ii_mo_sure_75 : sm_D prog_9_method_78_code 75 1 76 (.aload_n 0) := ⟨by decide +kernel, rfl⟩
set_option maxRecDepth 100000 in
theorem ii_mo_sure_76 : sm_D prog_9_method_78_code 76 1 77 (.iconst 1) := ⟨by decide +kernel, rfl⟩
set_option maxRecDepth 100000 in
theorem ii_mo_sure_77 : sm_D prog_9_method_78_code 77 1 78 (.aload_n 0) := ⟨by decide +kernel, rfl⟩
set_option maxRecDepth 100000 in
theorem ii_mo_sure_78 : sm_D prog_9_method_78_code 78 3 81 (.getfield 135) := ⟨by decide +kernel, rfl⟩
set_option maxRecDepth 100000 in
theorem ii_mo_sure_81 : sm_D prog_9_method_78_code 81 1 82 (.ishl) := ⟨by decide +kernel, rfl⟩
set_option maxRecDepth 100000 in
theorem ii_mo_sure_82 : sm_D prog_9_method_78_code 82 1 83 (.iconst 1) := ⟨by decide +kernel, rfl⟩
set_option maxRecDepth 100000 in
theorem ii_mo_sure_83 : sm_D prog_9_method_78_code 83 1 84 (.isub) := ⟨by decide +kernel, rfl⟩
set_option maxRecDepth 100000 in
theorem ii_mo_sure_84 : sm_D prog_9_method_78_code 84 2 86 (.iload 4) := ⟨by decide +kernel, rfl⟩
set_option maxRecDepth 100000 in
theorem ii_mo_sure_86 : sm_D prog_9_method_78_code 86 1 87 (.iconst (-1)) := ⟨by decide +kernel, rfl⟩
set_option maxRecDepth 100000 in
theorem ii_mo_sure_87 : sm_D prog_9_method_78_code 87 1 88 (.ixor) := ⟨by decide +kernel, rfl⟩
set_option maxRecDepth 100000 in
theorem ii_mo_sure_88 : sm_D prog_9_method_78_code 88 1 89 (.iand) := ⟨by decide +kernel, rfl⟩
set_option maxRecDepth 100000 in
theorem ii_mo_sure_89 : sm_D prog_9_method_78_code 89 3 92 (.putfield 66) := ⟨by decide +kernel, rfl⟩
set_option maxRecDepth 100000 in
theorem ii_mo_sure_92 : sm_D prog_9_method_78_code 92 1 93 (.iload_n 3) := ⟨by decide +kernel, rfl⟩
set_option maxRecDepth 100000 in
theorem ii_mo_sure_93 : sm_D prog_9_method_78_code 93 1 94 (.ireturn) := ⟨by decide +kernel, rfl⟩
noncomputable def ff_mo_sure_35_b  (self35 : Int32 → Int32 → Int32 → sm_Mem → sm_R) (a3 : Int32) (a4 : Int32) (a5 : Int32) (w : sm_Mem) : sm_R := (sm_cI (ff_mo_nextWay  w) fun x1 w2 => (if x1 = (0 : Int32) then (if a5 = (0 : Int32) then (sm_cI (ff_mo_find ((4 : Int32)) w2) fun x4 w5 => (some (.int x4, w5))) else (sm_let (sm_wI w2 62 9 ((((1 : Int32) <<< ((w2.1 62 1) &&& (31 : Int32))) - (1 : Int32)) &&& (a4 ^^^ (-1 : Int32)))) fun w3 => (some (.int a3, w3)))) else (sm_cI (ff_mo_spokeIn  w2) fun x6 w7 => (sm_cI (ff_mo_spokeIn  w7) fun x8 w9 => self35 ((a3 &&& x6)) ((a4 ||| x8)) ((1 : Int32)) w9))))
noncomputable def ff_mo_sure_35_f  : Nat → Int32 → Int32 → Int32 → sm_Mem → sm_R
  | 0, _, _, _, _ => none
  | n + 1, a3, a4, a5, w => ff_mo_sure_35_b  (ff_mo_sure_35_f  n) a3 a4 a5 w
noncomputable def ff_mo_sure_35  (a3 : Int32) (a4 : Int32) (a5 : Int32) (w : sm_Mem) : sm_R := ff_mo_sure_35_f  sm_N a3 a4 a5 w
set_option maxHeartbeats 4000000 in
set_option maxRecDepth 100000 in
theorem ss_mo_sure_35_b {E : Nat × (Nat → Int32)}  (self35 : Int32 → Int32 → Int32 → sm_Mem → sm_R) (hself35 : ∀ (a3 : Int32) (a4 : Int32) (a5 : Int32) (w : sm_Mem), sm_Sim E (mi_mo_sure) 35 [some (.ref 62), none, none, some (.int a3), some (.int a4), some (.int a5)] [] w (self35 a3 a4 a5 w)) (a3 : Int32) (a4 : Int32) (a5 : Int32) (w : sm_Mem) : sm_Sim E (mi_mo_sure) 35 [some (.ref 62), none, none, some (.int a3), some (.int a4), some (.int a5)] [] w (ff_mo_sure_35_b  self35 a3 a4 a5 w) := by
  unfold ff_mo_sure_35_b
  refine sm_aload_n ii_mo_sure_35 rfl ?_
  refine sm_cvI [] [] rfl ii_mo_sure_36 ml_mo_236 (mf_mo_nextWay) (mv_mo_nextWay) (Nat.le_of_ble_eq_true rfl) rfl 7 rfl rfl rfl rfl (mc_mo_nextWay  w) (fun x1 w2 => ?_)
  refine sm_if_eq 64 ii_mo_sure_39 (by decide) ?_ ?_
  · refine sm_iload ii_mo_sure_64 rfl ?_
    refine sm_if_ne 75 ii_mo_sure_66 (by decide) ?_ ?_
    · refine sm_aload_n ii_mo_sure_69 rfl ?_
      refine sm_iconst (4 : Int32) ii_mo_sure_70 (by decide) ?_
      refine sm_cvI [.int (4 : Int32)] [] rfl ii_mo_sure_71 ml_mo_81 (mf_mo_find) (mv_mo_find) (Nat.le_of_ble_eq_true rfl) rfl 7 rfl rfl rfl rfl (mc_mo_find ((4 : Int32)) w2) (fun x4 w5 => ?_)
      exact sm_iret ii_mo_sure_74 rfl
    · refine sm_aload_n ii_mo_sure_75 rfl ?_
      refine sm_iconst (1 : Int32) ii_mo_sure_76 (by decide) ?_
      refine sm_aload_n ii_mo_sure_77 rfl ?_
      refine sm_getI ii_mo_sure_78 fl_mo_135 (k := 62) rfl ?_
      refine sm_ishl ii_mo_sure_81 ?_
      refine sm_iconst (1 : Int32) ii_mo_sure_82 (by decide) ?_
      refine sm_isub ii_mo_sure_83 ?_
      refine sm_iload ii_mo_sure_84 rfl ?_
      refine sm_iconst (-1 : Int32) ii_mo_sure_86 (by decide) ?_
      refine sm_ixor ii_mo_sure_87 ?_
      refine sm_iand ii_mo_sure_88 ?_
      refine sm_putI ii_mo_sure_89 fp_mo_66 (k := 62) rfl (fun w3 => ?_)
      refine sm_iload_n ii_mo_sure_92 rfl ?_
      exact sm_iret ii_mo_sure_93 rfl
  · refine sm_iconst (1 : Int32) ii_mo_sure_42 (by decide) ?_
    refine sm_istore [some (.ref 62), none, none, some (.int a3), some (.int a4), some (.int (1 : Int32))] ii_mo_sure_43 rfl rfl ?_
    refine sm_iload_n ii_mo_sure_45 rfl ?_
    refine sm_aload_n ii_mo_sure_46 rfl ?_
    refine sm_cvI [] [.int a3] rfl ii_mo_sure_47 ml_mo_248 (mf_mo_spokeIn) (mv_mo_spokeIn) (Nat.le_of_ble_eq_true rfl) rfl 7 rfl rfl rfl rfl (mc_mo_spokeIn  w2) (fun x6 w7 => ?_)
    refine sm_iand ii_mo_sure_50 ?_
    refine sm_istore_n [some (.ref 62), none, none, some (.int (a3 &&& x6)), some (.int a4), some (.int (1 : Int32))] ii_mo_sure_51 rfl rfl ?_
    refine sm_iload ii_mo_sure_52 rfl ?_
    refine sm_aload_n ii_mo_sure_54 rfl ?_
    refine sm_cvI [] [.int a4] rfl ii_mo_sure_55 ml_mo_248 (mf_mo_spokeIn) (mv_mo_spokeIn) (Nat.le_of_ble_eq_true rfl) rfl 7 rfl rfl rfl rfl (mc_mo_spokeIn  w7) (fun x8 w9 => ?_)
    refine sm_ior ii_mo_sure_58 ?_
    refine sm_istore [some (.ref 62), none, none, some (.int (a3 &&& x6)), some (.int (a4 ||| x8)), some (.int (1 : Int32))] ii_mo_sure_59 rfl rfl ?_
    refine sm_goto 35 ii_mo_sure_61 (by decide) ?_
    exact hself35 ((a3 &&& x6)) ((a4 ||| x8)) ((1 : Int32)) w9
set_option maxHeartbeats 4000000 in
set_option maxRecDepth 100000 in
theorem ss_mo_sure_35_f {E : Nat × (Nat → Int32)}  : ∀ (n : Nat) (a3 : Int32) (a4 : Int32) (a5 : Int32) (w : sm_Mem), sm_Sim E (mi_mo_sure) 35 [some (.ref 62), none, none, some (.int a3), some (.int a4), some (.int a5)] [] w (ff_mo_sure_35_f  n a3 a4 a5 w)
  | 0, _, _, _, _ => fun _ _ h => by cases h
  | n + 1, a3, a4, a5, w => ss_mo_sure_35_b  _ (ss_mo_sure_35_f  n) a3 a4 a5 w
set_option maxHeartbeats 4000000 in
set_option maxRecDepth 100000 in
theorem ss_mo_sure_35 {E : Nat × (Nat → Int32)}  (a3 : Int32) (a4 : Int32) (a5 : Int32) (w : sm_Mem) : sm_Sim E (mi_mo_sure) 35 [some (.ref 62), none, none, some (.int a3), some (.int a4), some (.int a5)] [] w (ff_mo_sure_35  a3 a4 a5 w) := ss_mo_sure_35_f  sm_N a3 a4 a5 w
noncomputable def ff_mo_sure  (a1 : Int32) (w : sm_Mem) : sm_R := (sm_cI (ff_mo_isRow (a1) w) fun x10 w11 => (if x10 = (0 : Int32) then (some (.int (-1 : Int32), w11)) else (sm_cI (ff_mo_noGoal (a1) ((2 : Int32)) w11) fun x12 w13 => (if x12 = (0 : Int32) then (sm_cV (ff_mo_beginWays  w13) fun w15 => ff_mo_sure_35 ((63 : Int32)) ((0 : Int32)) ((0 : Int32)) w15) else (some (.int x12, w13))))))
set_option maxHeartbeats 4000000 in
set_option maxRecDepth 100000 in
theorem ss_mo_sure_0 {E : Nat × (Nat → Int32)}  (a1 : Int32) (w : sm_Mem) : sm_Sim E (mi_mo_sure) 0 [some (.ref 62), some (.int a1), none, none, none, none] [] w (ff_mo_sure  a1 w) := by
  unfold ff_mo_sure
  refine sm_iload_n ii_mo_sure_0 rfl ?_
  refine sm_csI [.int a1] [] rfl ii_mo_sure_1 ml_mo_77 (mf_mo_isRow) (mv_mo_isRow) (Nat.le_of_ble_eq_true rfl) rfl rfl rfl (mc_mo_isRow (a1) w) (fun x10 w11 => ?_)
  refine sm_if_ne 9 ii_mo_sure_4 (by decide) ?_ ?_
  · refine sm_iconst (-1 : Int32) ii_mo_sure_7 (by decide) ?_
    exact sm_iret ii_mo_sure_8 rfl
  · refine sm_aload_n ii_mo_sure_9 rfl ?_
    refine sm_iload_n ii_mo_sure_10 rfl ?_
    refine sm_iconst (2 : Int32) ii_mo_sure_11 (by decide) ?_
    refine sm_cvI [.int a1, .int (2 : Int32)] [] rfl ii_mo_sure_12 ml_mo_242 (mf_mo_noGoal) (mv_mo_noGoal) (Nat.le_of_ble_eq_true rfl) rfl 7 rfl rfl rfl rfl (mc_mo_noGoal (a1) ((2 : Int32)) w11) (fun x12 w13 => ?_)
    refine sm_istore_n [some (.ref 62), some (.int a1), some (.int x12), none, none, none] ii_mo_sure_15 rfl rfl ?_
    refine sm_iload_n ii_mo_sure_16 rfl ?_
    refine sm_if_eq 22 ii_mo_sure_17 (by decide) ?_ ?_
    · refine sm_bipush (63 : Int32) ii_mo_sure_22 (by decide) ?_
      refine sm_istore_n [some (.ref 62), some (.int a1), some (.int x12), some (.int (63 : Int32)), none, none] ii_mo_sure_24 rfl rfl ?_
      refine sm_iconst (0 : Int32) ii_mo_sure_25 (by decide) ?_
      refine sm_istore [some (.ref 62), some (.int a1), some (.int x12), some (.int (63 : Int32)), some (.int (0 : Int32)), none] ii_mo_sure_26 rfl rfl ?_
      refine sm_iconst (0 : Int32) ii_mo_sure_28 (by decide) ?_
      refine sm_istore [some (.ref 62), some (.int a1), some (.int x12), some (.int (63 : Int32)), some (.int (0 : Int32)), some (.int (0 : Int32))] ii_mo_sure_29 rfl rfl ?_
      refine sm_aload_n ii_mo_sure_31 rfl ?_
      refine sm_cvV [] [] rfl ii_mo_sure_32 ml_mo_233 (mf_mo_beginWays) (mv_mo_beginWays) (Nat.le_of_ble_eq_true rfl) rfl 7 rfl rfl rfl rfl (mc_mo_beginWays  w13) (fun w15 => ?_)
      refine sm_msk [true, false, false, true, true, true] [some (.ref 62), none, none, some (.int (63 : Int32)), some (.int (0 : Int32)), some (.int (0 : Int32))] rfl ?_
      exact ss_mo_sure_35 ((63 : Int32)) ((0 : Int32)) ((0 : Int32)) w15
    · refine sm_iload_n ii_mo_sure_20 rfl ?_
      exact sm_iret ii_mo_sure_21 rfl
set_option maxHeartbeats 4000000 in
set_option maxRecDepth 100000 in
theorem mc_mo_sure (a1 : Int32) (w : sm_Mem) : sm_MC mi_mo_sure [.ref 62, .int a1] w (ff_mo_sure a1 w) := sm_MC_of (0, fun _ => 0) (by decide +kernel) (by decide) rfl (Nat.le_of_ble_eq_true rfl) (ss_mo_sure_0 a1 w)
abbrev mi_rw_isOfTriples : sm_MI := (⟨"HerOrders$Row", "isOfTriples", "()Z"⟩, prog_4_method_9_code, 2, (some .boolean), 2)
set_option maxRecDepth 100000 in
theorem mf_rw_isOfTriples : sm_MF mi_rw_isOfTriples 0 := ⟨List.mem_of_getElem? (i := 773) (by decide +kernel), List.mem_of_getElem? (i := 125) (by decide +kernel), ⟨by decide, by decide⟩, by decide +kernel⟩
set_option maxRecDepth 100000 in
theorem mv_rw_isOfTriples : sm_MFV mi_rw_isOfTriples := ⟨List.mem_of_getElem? (i := 772) (by decide +kernel), List.mem_of_getElem? (i := 52) (by decide +kernel)⟩
set_option maxRecDepth 100000 in
theorem ii_rw_isOfTriples_0 : sm_D prog_4_method_9_code 0 1 1 (.iconst 0) := ⟨by decide +kernel, rfl⟩
set_option maxRecDepth 100000 in
theorem ii_rw_isOfTriples_1 : sm_D prog_4_method_9_code 1 1 2 (.istore_n 1) := ⟨by decide +kernel, rfl⟩
set_option maxRecDepth 100000 in
theorem ii_rw_isOfTriples_2 : sm_D prog_4_method_9_code 2 1 3 (.iload_n 1) := ⟨by decide +kernel, rfl⟩
set_option maxRecDepth 100000 in
theorem ii_rw_isOfTriples_3 : sm_D prog_4_method_9_code 3 1 4 (.iconst 2) := ⟨by decide +kernel, rfl⟩
set_option maxRecDepth 100000 in
theorem ii_rw_isOfTriples_4 : sm_D prog_4_method_9_code 4 1 5 (.iadd) := ⟨by decide +kernel, rfl⟩
set_option maxRecDepth 100000 in
theorem ii_rw_isOfTriples_5 : sm_D prog_4_method_9_code 5 1 6 (.aload_n 0) := ⟨by decide +kernel, rfl⟩
set_option maxRecDepth 100000 in
theorem ii_rw_isOfTriples_6 : sm_D prog_4_method_9_code 6 3 9 (.getfield 21) := ⟨by decide +kernel, rfl⟩
set_option maxRecDepth 100000 in
theorem ii_rw_isOfTriples_9 : sm_D prog_4_method_9_code 9 3 12 (.if_icmp .ge 71) := ⟨by decide +kernel, rfl⟩
set_option maxRecDepth 100000 in
theorem ii_rw_isOfTriples_12 : sm_D prog_4_method_9_code 12 1 13 (.aload_n 0) := ⟨by decide +kernel, rfl⟩
set_option maxRecDepth 100000 in
theorem ii_rw_isOfTriples_13 : sm_D prog_4_method_9_code 13 3 16 (.getfield 15) := ⟨by decide +kernel, rfl⟩
set_option maxRecDepth 100000 in
theorem ii_rw_isOfTriples_16 : sm_D prog_4_method_9_code 16 1 17 (.iload_n 1) := ⟨by decide +kernel, rfl⟩
set_option maxRecDepth 100000 in
theorem ii_rw_isOfTriples_17 : sm_D prog_4_method_9_code 17 1 18 (.iaload) := ⟨by decide +kernel, rfl⟩
set_option maxRecDepth 100000 in
theorem ii_rw_isOfTriples_18 : sm_D prog_4_method_9_code 18 2 20 (.bipush (-9)) := ⟨by decide +kernel, rfl⟩
set_option maxRecDepth 100000 in
theorem ii_rw_isOfTriples_20 : sm_D prog_4_method_9_code 20 3 23 (.if_icmp .eq 19) := ⟨by decide +kernel, rfl⟩
set_option maxRecDepth 100000 in
theorem ii_rw_isOfTriples_23 : sm_D prog_4_method_9_code 23 1 24 (.aload_n 0) := ⟨by decide +kernel, rfl⟩
set_option maxRecDepth 100000 in
theorem ii_rw_isOfTriples_24 : sm_D prog_4_method_9_code 24 3 27 (.getfield 15) := ⟨by decide +kernel, rfl⟩
set_option maxRecDepth 100000 in
theorem ii_rw_isOfTriples_27 : sm_D prog_4_method_9_code 27 1 28 (.iload_n 1) := ⟨by decide +kernel, rfl⟩
set_option maxRecDepth 100000 in
theorem ii_rw_isOfTriples_28 : sm_D prog_4_method_9_code 28 1 29 (.iaload) := ⟨by decide +kernel, rfl⟩
set_option maxRecDepth 100000 in
theorem ii_rw_isOfTriples_29 : sm_D prog_4_method_9_code 29 2 31 (.bipush 6) := ⟨by decide +kernel, rfl⟩
set_option maxRecDepth 100000 in
theorem ii_rw_isOfTriples_31 : sm_D prog_4_method_9_code 31 3 34 (.invokestatic 32) := ⟨by decide +kernel, rfl⟩
set_option maxRecDepth 100000 in
theorem ii_rw_isOfTriples_34 : sm_D prog_4_method_9_code 34 3 37 (.ifCond .ne 5) := ⟨by decide +kernel, rfl⟩
set_option maxRecDepth 100000 in
theorem ii_rw_isOfTriples_37 : sm_D prog_4_method_9_code 37 1 38 (.iconst 0) := ⟨by decide +kernel, rfl⟩
set_option maxRecDepth 100000 in
theorem ii_rw_isOfTriples_38 : sm_D prog_4_method_9_code 38 1 39 (.ireturn) := ⟨by decide +kernel, rfl⟩
set_option maxRecDepth 100000 in
theorem ii_rw_isOfTriples_39 : sm_D prog_4_method_9_code 39 1 40 (.aload_n 0) := ⟨by decide +kernel, rfl⟩
set_option maxRecDepth 100000 in
theorem ii_rw_isOfTriples_40 : sm_D prog_4_method_9_code 40 3 43 (.getfield 15) := ⟨by decide +kernel, rfl⟩
set_option maxRecDepth 100000 in
theorem ii_rw_isOfTriples_43 : sm_D prog_4_method_9_code 43 1 44 (.iload_n 1) := ⟨by decide +kernel, rfl⟩
set_option maxRecDepth 100000 in
theorem ii_rw_isOfTriples_44 : sm_D prog_4_method_9_code 44 1 45 (.iconst 1) := ⟨by decide +kernel, rfl⟩
set_option maxRecDepth 100000 in
theorem ii_rw_isOfTriples_45 : sm_D prog_4_method_9_code 45 1 46 (.iadd) := ⟨by decide +kernel, rfl⟩
set_option maxRecDepth 100000 in
theorem ii_rw_isOfTriples_46 : sm_D prog_4_method_9_code 46 1 47 (.iaload) := ⟨by decide +kernel, rfl⟩
set_option maxRecDepth 100000 in
theorem ii_rw_isOfTriples_47 : sm_D prog_4_method_9_code 47 2 49 (.bipush 6) := ⟨by decide +kernel, rfl⟩
set_option maxRecDepth 100000 in
theorem ii_rw_isOfTriples_49 : sm_D prog_4_method_9_code 49 3 52 (.invokestatic 32) := ⟨by decide +kernel, rfl⟩
set_option maxRecDepth 100000 in
theorem ii_rw_isOfTriples_52 : sm_D prog_4_method_9_code 52 3 55 (.ifCond .ne 5) := ⟨by decide +kernel, rfl⟩
set_option maxRecDepth 100000 in
theorem ii_rw_isOfTriples_55 : sm_D prog_4_method_9_code 55 1 56 (.iconst 0) := ⟨by decide +kernel, rfl⟩
set_option maxRecDepth 100000 in
theorem ii_rw_isOfTriples_56 : sm_D prog_4_method_9_code 56 1 57 (.ireturn) := ⟨by decide +kernel, rfl⟩
set_option maxRecDepth 100000 in
theorem ii_rw_isOfTriples_57 : sm_D prog_4_method_9_code 57 1 58 (.aload_n 0) := ⟨by decide +kernel, rfl⟩
set_option maxRecDepth 100000 in
theorem ii_rw_isOfTriples_58 : sm_D prog_4_method_9_code 58 3 61 (.getfield 15) := ⟨by decide +kernel, rfl⟩
set_option maxRecDepth 100000 in
theorem ii_rw_isOfTriples_61 : sm_D prog_4_method_9_code 61 1 62 (.iload_n 1) := ⟨by decide +kernel, rfl⟩
set_option maxRecDepth 100000 in
theorem ii_rw_isOfTriples_62 : sm_D prog_4_method_9_code 62 1 63 (.iconst 2) := ⟨by decide +kernel, rfl⟩
set_option maxRecDepth 100000 in
theorem ii_rw_isOfTriples_63 : sm_D prog_4_method_9_code 63 1 64 (.iadd) := ⟨by decide +kernel, rfl⟩
set_option maxRecDepth 100000 in
theorem ii_rw_isOfTriples_64 : sm_D prog_4_method_9_code 64 1 65 (.iaload) := ⟨by decide +kernel, rfl⟩
set_option maxRecDepth 100000 in
theorem ii_rw_isOfTriples_65 : sm_D prog_4_method_9_code 65 1 66 (.iconst 2) := ⟨by decide +kernel, rfl⟩
set_option maxRecDepth 100000 in
theorem ii_rw_isOfTriples_66 : sm_D prog_4_method_9_code 66 3 69 (.invokestatic 32) := ⟨by decide +kernel, rfl⟩
set_option maxRecDepth 100000 in
theorem ii_rw_isOfTriples_69 : sm_D prog_4_method_9_code 69 3 72 (.ifCond .ne 5) := ⟨by decide +kernel, rfl⟩
set_option maxRecDepth 100000 in
theorem ii_rw_isOfTriples_72 : sm_D prog_4_method_9_code 72 1 73 (.iconst 0) := ⟨by decide +kernel, rfl⟩
set_option maxRecDepth 100000 in
theorem ii_rw_isOfTriples_73 : sm_D prog_4_method_9_code 73 1 74 (.ireturn) := ⟨by decide +kernel, rfl⟩
set_option maxRecDepth 100000 in
theorem ii_rw_isOfTriples_74 : sm_D prog_4_method_9_code 74 3 77 (.iinc 1 3) := ⟨by decide +kernel, rfl⟩
set_option maxRecDepth 100000 in
theorem ii_rw_isOfTriples_77 : sm_D prog_4_method_9_code 77 3 80 (.goto (-75)) := ⟨by decide +kernel, rfl⟩
set_option maxRecDepth 100000 in
theorem ii_rw_isOfTriples_80 : sm_D prog_4_method_9_code 80 1 81 (.iconst 1) := ⟨by decide +kernel, rfl⟩
set_option maxRecDepth 100000 in
theorem ii_rw_isOfTriples_81 : sm_D prog_4_method_9_code 81 1 82 (.ireturn) := ⟨by decide +kernel, rfl⟩
noncomputable def ff_rw_isOfTriples_39 (self2 : Nat → Int32 → sm_Mem → sm_R) (a0 : Nat) (a1 : Int32) (w : sm_Mem) : sm_R := (Option.bind (sm_fk a0 2 0 2) fun r1 => (Option.bind (sm_rds w r1 (a1 + (1 : Int32))) fun x2 => (sm_cI (ff_ho_isWithin (x2) ((6 : Int32)) w) fun x3 w4 => (if x3 = (0 : Int32) then (some (.int (0 : Int32), w4)) else (Option.bind (sm_fk a0 2 0 2) fun r5 => (Option.bind (sm_rds w4 r5 (a1 + (2 : Int32))) fun x6 => (sm_cI (ff_ho_isWithin (x6) ((2 : Int32)) w4) fun x7 w8 => (if x7 = (0 : Int32) then (some (.int (0 : Int32), w8)) else self2 (a0) ((a1 + (3 : Int32))) w8))))))))
set_option maxHeartbeats 4000000 in
set_option maxRecDepth 100000 in
theorem ss_rw_isOfTriples_39 {E : Nat × (Nat → Int32)} (self2 : Nat → Int32 → sm_Mem → sm_R) (hself2 : ∀ (a0 : Nat) (a1 : Int32) (w : sm_Mem), sm_Sim E (mi_rw_isOfTriples) 2 [some (.ref a0), some (.int a1)] [] w (self2 a0 a1 w)) (a0 : Nat) (a1 : Int32) (w : sm_Mem) : sm_Sim E (mi_rw_isOfTriples) 39 [some (.ref a0), some (.int a1)] [] w (ff_rw_isOfTriples_39 self2 a0 a1 w) := by
  unfold ff_rw_isOfTriples_39
  refine sm_aload_n ii_rw_isOfTriples_39 rfl ?_
  refine sm_getRs ii_rw_isOfTriples_40 fl_rw_15 (fun r1 => ?_)
  refine sm_iload_n ii_rw_isOfTriples_43 rfl ?_
  refine sm_iconst (1 : Int32) ii_rw_isOfTriples_44 (by decide) ?_
  refine sm_iadd ii_rw_isOfTriples_45 ?_
  refine sm_ialds ii_rw_isOfTriples_46 (fun x2 => ?_)
  refine sm_bipush (6 : Int32) ii_rw_isOfTriples_47 (by decide) ?_
  refine sm_csI [.int x2, .int (6 : Int32)] [] rfl ii_rw_isOfTriples_49 ml_rw_32 (mf_ho_isWithin) (mv_ho_isWithin) (Nat.le_of_ble_eq_true rfl) rfl rfl rfl (mc_ho_isWithin (x2) ((6 : Int32)) w) (fun x3 w4 => ?_)
  refine sm_if_ne 57 ii_rw_isOfTriples_52 (by decide) ?_ ?_
  · refine sm_iconst (0 : Int32) ii_rw_isOfTriples_55 (by decide) ?_
    exact sm_zret1 ii_rw_isOfTriples_56 rfl (by decide)
  · refine sm_aload_n ii_rw_isOfTriples_57 rfl ?_
    refine sm_getRs ii_rw_isOfTriples_58 fl_rw_15 (fun r5 => ?_)
    refine sm_iload_n ii_rw_isOfTriples_61 rfl ?_
    refine sm_iconst (2 : Int32) ii_rw_isOfTriples_62 (by decide) ?_
    refine sm_iadd ii_rw_isOfTriples_63 ?_
    refine sm_ialds ii_rw_isOfTriples_64 (fun x6 => ?_)
    refine sm_iconst (2 : Int32) ii_rw_isOfTriples_65 (by decide) ?_
    refine sm_csI [.int x6, .int (2 : Int32)] [] rfl ii_rw_isOfTriples_66 ml_rw_32 (mf_ho_isWithin) (mv_ho_isWithin) (Nat.le_of_ble_eq_true rfl) rfl rfl rfl (mc_ho_isWithin (x6) ((2 : Int32)) w4) (fun x7 w8 => ?_)
    refine sm_if_ne 74 ii_rw_isOfTriples_69 (by decide) ?_ ?_
    · refine sm_iconst (0 : Int32) ii_rw_isOfTriples_72 (by decide) ?_
      exact sm_zret1 ii_rw_isOfTriples_73 rfl (by decide)
    · refine sm_iinc (a1 + (3 : Int32)) [some (.ref a0), some (.int (a1 + (3 : Int32)))] ii_rw_isOfTriples_74 rfl rfl rfl rfl ?_
      refine sm_goto 2 ii_rw_isOfTriples_77 (by decide) ?_
      exact hself2 (a0) ((a1 + (3 : Int32))) w8
noncomputable def ff_rw_isOfTriples_2_b  (self2 : Nat → Int32 → sm_Mem → sm_R) (a0 : Nat) (a1 : Int32) (w : sm_Mem) : sm_R := (Option.bind (sm_gI w a0 2 1) fun x9 => (if x9 ≤ (a1 + (2 : Int32)) then (some (.int (1 : Int32), w)) else (Option.bind (sm_fk a0 2 0 2) fun r10 => (Option.bind (sm_rds w r10 a1) fun x11 => (if x11 = (-9 : Int32) then ff_rw_isOfTriples_39 self2 (a0) (a1) w else (Option.bind (sm_fk a0 2 0 2) fun r12 => (Option.bind (sm_rds w r12 a1) fun x13 => (sm_cI (ff_ho_isWithin (x13) ((6 : Int32)) w) fun x14 w15 => (if x14 = (0 : Int32) then (some (.int (0 : Int32), w15)) else ff_rw_isOfTriples_39 self2 (a0) (a1) w15)))))))))
noncomputable def ff_rw_isOfTriples_2_f  : Nat → Nat → Int32 → sm_Mem → sm_R
  | 0, _, _, _ => none
  | n + 1, a0, a1, w => ff_rw_isOfTriples_2_b  (ff_rw_isOfTriples_2_f  n) a0 a1 w
noncomputable def ff_rw_isOfTriples_2  (a0 : Nat) (a1 : Int32) (w : sm_Mem) : sm_R := ff_rw_isOfTriples_2_f  sm_N a0 a1 w
set_option maxHeartbeats 4000000 in
set_option maxRecDepth 100000 in
theorem ss_rw_isOfTriples_2_b {E : Nat × (Nat → Int32)}  (self2 : Nat → Int32 → sm_Mem → sm_R) (hself2 : ∀ (a0 : Nat) (a1 : Int32) (w : sm_Mem), sm_Sim E (mi_rw_isOfTriples) 2 [some (.ref a0), some (.int a1)] [] w (self2 a0 a1 w)) (a0 : Nat) (a1 : Int32) (w : sm_Mem) : sm_Sim E (mi_rw_isOfTriples) 2 [some (.ref a0), some (.int a1)] [] w (ff_rw_isOfTriples_2_b  self2 a0 a1 w) := by
  unfold ff_rw_isOfTriples_2_b
  refine sm_iload_n ii_rw_isOfTriples_2 rfl ?_
  refine sm_iconst (2 : Int32) ii_rw_isOfTriples_3 (by decide) ?_
  refine sm_iadd ii_rw_isOfTriples_4 ?_
  refine sm_aload_n ii_rw_isOfTriples_5 rfl ?_
  refine sm_getIs ii_rw_isOfTriples_6 fl_rw_21 (fun x9 => ?_)
  refine sm_icmp_ge 80 ii_rw_isOfTriples_9 (by decide) ?_ ?_
  · refine sm_iconst (1 : Int32) ii_rw_isOfTriples_80 (by decide) ?_
    exact sm_zret1 ii_rw_isOfTriples_81 rfl (by decide)
  · refine sm_aload_n ii_rw_isOfTriples_12 rfl ?_
    refine sm_getRs ii_rw_isOfTriples_13 fl_rw_15 (fun r10 => ?_)
    refine sm_iload_n ii_rw_isOfTriples_16 rfl ?_
    refine sm_ialds ii_rw_isOfTriples_17 (fun x11 => ?_)
    refine sm_bipush (-9 : Int32) ii_rw_isOfTriples_18 (by decide) ?_
    refine sm_icmp_eq 39 ii_rw_isOfTriples_20 (by decide) ?_ ?_
    · exact ss_rw_isOfTriples_39 self2 hself2 (a0) (a1) w
    · refine sm_aload_n ii_rw_isOfTriples_23 rfl ?_
      refine sm_getRs ii_rw_isOfTriples_24 fl_rw_15 (fun r12 => ?_)
      refine sm_iload_n ii_rw_isOfTriples_27 rfl ?_
      refine sm_ialds ii_rw_isOfTriples_28 (fun x13 => ?_)
      refine sm_bipush (6 : Int32) ii_rw_isOfTriples_29 (by decide) ?_
      refine sm_csI [.int x13, .int (6 : Int32)] [] rfl ii_rw_isOfTriples_31 ml_rw_32 (mf_ho_isWithin) (mv_ho_isWithin) (Nat.le_of_ble_eq_true rfl) rfl rfl rfl (mc_ho_isWithin (x13) ((6 : Int32)) w) (fun x14 w15 => ?_)
      refine sm_if_ne 39 ii_rw_isOfTriples_34 (by decide) ?_ ?_
      · refine sm_iconst (0 : Int32) ii_rw_isOfTriples_37 (by decide) ?_
        exact sm_zret1 ii_rw_isOfTriples_38 rfl (by decide)
      · exact ss_rw_isOfTriples_39 self2 hself2 (a0) (a1) w15
set_option maxHeartbeats 4000000 in
set_option maxRecDepth 100000 in
theorem ss_rw_isOfTriples_2_f {E : Nat × (Nat → Int32)}  : ∀ (n : Nat) (a0 : Nat) (a1 : Int32) (w : sm_Mem), sm_Sim E (mi_rw_isOfTriples) 2 [some (.ref a0), some (.int a1)] [] w (ff_rw_isOfTriples_2_f  n a0 a1 w)
  | 0, _, _, _ => fun _ _ h => by cases h
  | n + 1, a0, a1, w => ss_rw_isOfTriples_2_b  _ (ss_rw_isOfTriples_2_f  n) a0 a1 w
set_option maxHeartbeats 4000000 in
set_option maxRecDepth 100000 in
theorem ss_rw_isOfTriples_2 {E : Nat × (Nat → Int32)}  (a0 : Nat) (a1 : Int32) (w : sm_Mem) : sm_Sim E (mi_rw_isOfTriples) 2 [some (.ref a0), some (.int a1)] [] w (ff_rw_isOfTriples_2  a0 a1 w) := ss_rw_isOfTriples_2_f  sm_N a0 a1 w
noncomputable def ff_rw_isOfTriples  (a0 : Nat) (w : sm_Mem) : sm_R := ff_rw_isOfTriples_2 (a0) ((0 : Int32)) w
set_option maxHeartbeats 4000000 in
set_option maxRecDepth 100000 in
theorem ss_rw_isOfTriples_0 {E : Nat × (Nat → Int32)}  (a0 : Nat) (w : sm_Mem) : sm_Sim E (mi_rw_isOfTriples) 0 [some (.ref a0), none] [] w (ff_rw_isOfTriples  a0 w) := by
  unfold ff_rw_isOfTriples
  refine sm_iconst (0 : Int32) ii_rw_isOfTriples_0 (by decide) ?_
  refine sm_istore_n [some (.ref a0), some (.int (0 : Int32))] ii_rw_isOfTriples_1 rfl rfl ?_
  exact ss_rw_isOfTriples_2 (a0) ((0 : Int32)) w
set_option maxHeartbeats 4000000 in
set_option maxRecDepth 100000 in
theorem mc_rw_isOfTriples (a0 : Nat) (w : sm_Mem) : sm_MC mi_rw_isOfTriples [.ref a0] w (ff_rw_isOfTriples a0 w) := sm_MC_of (0, fun _ => 0) (by decide +kernel) (by decide) rfl (Nat.le_of_ble_eq_true rfl) (ss_rw_isOfTriples_0 a0 w)
abbrev mi_ho_refusalOfTriples : sm_MI := (⟨"HerOrders", "refusalOfTriples", "(II)I"⟩, prog_1_method_52_code, 3, (some .int), 3)
set_option maxRecDepth 100000 in
theorem mf_ho_refusalOfTriples : sm_MF mi_ho_refusalOfTriples 2 := ⟨List.mem_of_getElem? (i := 769) (by decide +kernel), List.mem_of_getElem? (i := 124) (by decide +kernel), ⟨by decide, by decide⟩, by decide +kernel⟩
set_option maxRecDepth 100000 in
theorem mv_ho_refusalOfTriples : sm_MFV mi_ho_refusalOfTriples := ⟨List.mem_of_getElem? (i := 768) (by decide +kernel), List.mem_of_getElem? (i := 51) (by decide +kernel)⟩
set_option maxRecDepth 100000 in
theorem ii_ho_refusalOfTriples_0 : sm_D prog_1_method_52_code 0 1 1 (.aload_n 0) := ⟨by decide +kernel, rfl⟩
set_option maxRecDepth 100000 in
theorem ii_ho_refusalOfTriples_1 : sm_D prog_1_method_52_code 1 1 2 (.iload_n 1) := ⟨by decide +kernel, rfl⟩
set_option maxRecDepth 100000 in
theorem ii_ho_refusalOfTriples_2 : sm_D prog_1_method_52_code 2 3 5 (.invokevirtual 118) := ⟨by decide +kernel, rfl⟩
set_option maxRecDepth 100000 in
theorem ii_ho_refusalOfTriples_5 : sm_D prog_1_method_52_code 5 3 8 (.ifCond .eq 12) := ⟨by decide +kernel, rfl⟩
set_option maxRecDepth 100000 in
theorem ii_ho_refusalOfTriples_8 : sm_D prog_1_method_52_code 8 1 9 (.iload_n 2) := ⟨by decide +kernel, rfl⟩
set_option maxRecDepth 100000 in
theorem ii_ho_refusalOfTriples_9 : sm_D prog_1_method_52_code 9 2 11 (.bipush 6) := ⟨by decide +kernel, rfl⟩
set_option maxRecDepth 100000 in
theorem ii_ho_refusalOfTriples_11 : sm_D prog_1_method_52_code 11 3 14 (.invokestatic 81) := ⟨by decide +kernel, rfl⟩
set_option maxRecDepth 100000 in
theorem ii_ho_refusalOfTriples_14 : sm_D prog_1_method_52_code 14 3 17 (.ifCond .ne 5) := ⟨by decide +kernel, rfl⟩
set_option maxRecDepth 100000 in
theorem ii_ho_refusalOfTriples_17 : sm_D prog_1_method_52_code 17 1 18 (.iconst (-1)) := ⟨by decide +kernel, rfl⟩
set_option maxRecDepth 100000 in
theorem ii_ho_refusalOfTriples_18 : sm_D prog_1_method_52_code 18 1 19 (.ireturn) := ⟨by decide +kernel, rfl⟩
set_option maxRecDepth 100000 in
theorem ii_ho_refusalOfTriples_19 : sm_D prog_1_method_52_code 19 1 20 (.aload_n 0) := ⟨by decide +kernel, rfl⟩
set_option maxRecDepth 100000 in
theorem ii_ho_refusalOfTriples_20 : sm_D prog_1_method_52_code 20 3 23 (.getfield 11) := ⟨by decide +kernel, rfl⟩
set_option maxRecDepth 100000 in
theorem ii_ho_refusalOfTriples_23 : sm_D prog_1_method_52_code 23 1 24 (.iload_n 2) := ⟨by decide +kernel, rfl⟩
set_option maxRecDepth 100000 in
theorem ii_ho_refusalOfTriples_24 : sm_D prog_1_method_52_code 24 1 25 (.aaload) := ⟨by decide +kernel, rfl⟩
set_option maxRecDepth 100000 in
theorem ii_ho_refusalOfTriples_25 : sm_D prog_1_method_52_code 25 3 28 (.invokevirtual 89) := ⟨by decide +kernel, rfl⟩
set_option maxRecDepth 100000 in
theorem ii_ho_refusalOfTriples_28 : sm_D prog_1_method_52_code 28 3 31 (.ifCond .eq 12) := ⟨by decide +kernel, rfl⟩
set_option maxRecDepth 100000 in
theorem ii_ho_refusalOfTriples_31 : sm_D prog_1_method_52_code 31 1 32 (.aload_n 0) := ⟨by decide +kernel, rfl⟩
set_option maxRecDepth 100000 in
theorem ii_ho_refusalOfTriples_32 : sm_D prog_1_method_52_code 32 3 35 (.getfield 54) := ⟨by decide +kernel, rfl⟩
set_option maxRecDepth 100000 in
theorem ii_ho_refusalOfTriples_35 : sm_D prog_1_method_52_code 35 1 36 (.iconst 1) := ⟨by decide +kernel, rfl⟩
set_option maxRecDepth 100000 in
theorem ii_ho_refusalOfTriples_36 : sm_D prog_1_method_52_code 36 3 39 (.invokevirtual 85) := ⟨by decide +kernel, rfl⟩
set_option maxRecDepth 100000 in
theorem ii_ho_refusalOfTriples_39 : sm_D prog_1_method_52_code 39 1 40 (.ireturn) := ⟨by decide +kernel, rfl⟩
set_option maxRecDepth 100000 in
theorem ii_ho_refusalOfTriples_40 : sm_D prog_1_method_52_code 40 1 41 (.aload_n 0) := ⟨by decide +kernel, rfl⟩
set_option maxRecDepth 100000 in
theorem ii_ho_refusalOfTriples_41 : sm_D prog_1_method_52_code 41 3 44 (.getfield 11) := ⟨by decide +kernel, rfl⟩
set_option maxRecDepth 100000 in
theorem ii_ho_refusalOfTriples_44 : sm_D prog_1_method_52_code 44 1 45 (.iload_n 2) := ⟨by decide +kernel, rfl⟩
set_option maxRecDepth 100000 in
theorem ii_ho_refusalOfTriples_45 : sm_D prog_1_method_52_code 45 1 46 (.aaload) := ⟨by decide +kernel, rfl⟩
set_option maxRecDepth 100000 in
theorem ii_ho_refusalOfTriples_46 : sm_D prog_1_method_52_code 46 3 49 (.getfield 78) := ⟨by decide +kernel, rfl⟩
set_option maxRecDepth 100000 in
theorem ii_ho_refusalOfTriples_49 : sm_D prog_1_method_52_code 49 1 50 (.iconst 3) := ⟨by decide +kernel, rfl⟩
set_option maxRecDepth 100000 in
theorem ii_ho_refusalOfTriples_50 : sm_D prog_1_method_52_code 50 1 51 (.irem) := ⟨by decide +kernel, rfl⟩
set_option maxRecDepth 100000 in
theorem ii_ho_refusalOfTriples_51 : sm_D prog_1_method_52_code 51 3 54 (.ifCond .eq 12) := ⟨by decide +kernel, rfl⟩
set_option maxRecDepth 100000 in
theorem ii_ho_refusalOfTriples_54 : sm_D prog_1_method_52_code 54 1 55 (.aload_n 0) := ⟨by decide +kernel, rfl⟩
set_option maxRecDepth 100000 in
theorem ii_ho_refusalOfTriples_55 : sm_D prog_1_method_52_code 55 3 58 (.getfield 54) := ⟨by decide +kernel, rfl⟩
set_option maxRecDepth 100000 in
theorem ii_ho_refusalOfTriples_58 : sm_D prog_1_method_52_code 58 1 59 (.iconst 5) := ⟨by decide +kernel, rfl⟩
set_option maxRecDepth 100000 in
theorem ii_ho_refusalOfTriples_59 : sm_D prog_1_method_52_code 59 3 62 (.invokevirtual 85) := ⟨by decide +kernel, rfl⟩
set_option maxRecDepth 100000 in
theorem ii_ho_refusalOfTriples_62 : sm_D prog_1_method_52_code 62 1 63 (.ireturn) := ⟨by decide +kernel, rfl⟩
set_option maxRecDepth 100000 in
theorem ii_ho_refusalOfTriples_63 : sm_D prog_1_method_52_code 63 1 64 (.aload_n 0) := ⟨by decide +kernel, rfl⟩
set_option maxRecDepth 100000 in
theorem ii_ho_refusalOfTriples_64 : sm_D prog_1_method_52_code 64 3 67 (.getfield 11) := ⟨by decide +kernel, rfl⟩
set_option maxRecDepth 100000 in
theorem ii_ho_refusalOfTriples_67 : sm_D prog_1_method_52_code 67 1 68 (.iload_n 2) := ⟨by decide +kernel, rfl⟩
set_option maxRecDepth 100000 in
theorem ii_ho_refusalOfTriples_68 : sm_D prog_1_method_52_code 68 1 69 (.aaload) := ⟨by decide +kernel, rfl⟩
set_option maxRecDepth 100000 in
theorem ii_ho_refusalOfTriples_69 : sm_D prog_1_method_52_code 69 3 72 (.invokevirtual 331) := ⟨by decide +kernel, rfl⟩
set_option maxRecDepth 100000 in
theorem ii_ho_refusalOfTriples_72 : sm_D prog_1_method_52_code 72 3 75 (.ifCond .eq 7) := ⟨by decide +kernel, rfl⟩
set_option maxRecDepth 100000 in
theorem ii_ho_refusalOfTriples_75 : sm_D prog_1_method_52_code 75 1 76 (.iconst 0) := ⟨by decide +kernel, rfl⟩
set_option maxRecDepth 100000 in
theorem ii_ho_refusalOfTriples_76 : sm_D prog_1_method_52_code 76 3 79 (.goto 11) := ⟨by decide +kernel, rfl⟩
set_option maxRecDepth 100000 in
theorem ii_ho_refusalOfTriples_79 : sm_D prog_1_method_52_code 79 1 80 (.aload_n 0) := ⟨by decide +kernel, rfl⟩
set_option maxRecDepth 100000 in
theorem ii_ho_refusalOfTriples_80 : sm_D prog_1_method_52_code 80 3 83 (.getfield 54) := ⟨by decide +kernel, rfl⟩
set_option maxRecDepth 100000 in
theorem ii_ho_refusalOfTriples_83 : sm_D prog_1_method_52_code 83 1 84 (.iconst 3) := ⟨by decide +kernel, rfl⟩
set_option maxRecDepth 100000 in
theorem ii_ho_refusalOfTriples_84 : sm_D prog_1_method_52_code 84 3 87 (.invokevirtual 85) := ⟨by decide +kernel, rfl⟩
set_option maxRecDepth 100000 in
theorem ii_ho_refusalOfTriples_87 : sm_D prog_1_method_52_code 87 1 88 (.ireturn) := ⟨by decide +kernel, rfl⟩
noncomputable def ff_ho_refusalOfTriples  (a1 : Int32) (a2 : Int32) (w : sm_Mem) : sm_R := (sm_cI (ff_ho_isSpeaker (a1) w) fun x1 w2 => (if x1 = (0 : Int32) then (some (.int (-1 : Int32), w2)) else (sm_cI (ff_ho_isWithin (a2) ((6 : Int32)) w2) fun x3 w4 => (if x3 = (0 : Int32) then (some (.int (-1 : Int32), w4)) else (Option.bind (sm_rr 1 a2) fun r5 => (sm_cI (sm_rc r5 2 (ff_rw_isMissing (r5) w4)) fun x6 w7 => (if x6 = (0 : Int32) then (Option.bind (sm_rr 1 a2) fun r8 => (Option.bind (sm_gI w7 r8 2 1) fun x9 => (if (3 : Int32) = (0 : Int32) then none else (if (x9 - x9 / (3 : Int32) * (3 : Int32)) = (0 : Int32) then (Option.bind (sm_rr 1 a2) fun r11 => (sm_cI (sm_rc r11 2 (ff_rw_isOfTriples (r11) w7)) fun x12 w13 => (if x12 = (0 : Int32) then (sm_cI (ff_td_refuse ((3 : Int32)) w13) fun x14 w15 => (some (.int x14, w15))) else (some (.int (0 : Int32), w13))))) else (sm_cI (ff_td_refuse ((5 : Int32)) w7) fun x16 w17 => (some (.int x16, w17))))))) else (sm_cI (ff_td_refuse ((1 : Int32)) w7) fun x18 w19 => (some (.int x18, w19))))))))))
set_option maxHeartbeats 4000000 in
set_option maxRecDepth 100000 in
theorem ss_ho_refusalOfTriples_0 {E : Nat × (Nat → Int32)}  (a1 : Int32) (a2 : Int32) (w : sm_Mem) : sm_Sim E (mi_ho_refusalOfTriples) 0 [some (.ref 0), some (.int a1), some (.int a2)] [] w (ff_ho_refusalOfTriples  a1 a2 w) := by
  unfold ff_ho_refusalOfTriples
  refine sm_aload_n ii_ho_refusalOfTriples_0 rfl ?_
  refine sm_iload_n ii_ho_refusalOfTriples_1 rfl ?_
  refine sm_cvI [.int a1] [] rfl ii_ho_refusalOfTriples_2 ml_ho_118 (mf_ho_isSpeaker) (mv_ho_isSpeaker) (Nat.le_of_ble_eq_true rfl) rfl 6 rfl rfl rfl rfl (mc_ho_isSpeaker (a1) w) (fun x1 w2 => ?_)
  refine sm_if_eq 17 ii_ho_refusalOfTriples_5 (by decide) ?_ ?_
  · refine sm_iconst (-1 : Int32) ii_ho_refusalOfTriples_17 (by decide) ?_
    exact sm_iret ii_ho_refusalOfTriples_18 rfl
  · refine sm_iload_n ii_ho_refusalOfTriples_8 rfl ?_
    refine sm_bipush (6 : Int32) ii_ho_refusalOfTriples_9 (by decide) ?_
    refine sm_csI [.int a2, .int (6 : Int32)] [] rfl ii_ho_refusalOfTriples_11 ml_ho_81 (mf_ho_isWithin) (mv_ho_isWithin) (Nat.le_of_ble_eq_true rfl) rfl rfl rfl (mc_ho_isWithin (a2) ((6 : Int32)) w2) (fun x3 w4 => ?_)
    refine sm_if_ne 19 ii_ho_refusalOfTriples_14 (by decide) ?_ ?_
    · refine sm_iconst (-1 : Int32) ii_ho_refusalOfTriples_17 (by decide) ?_
      exact sm_iret ii_ho_refusalOfTriples_18 rfl
    · refine sm_aload_n ii_ho_refusalOfTriples_19 rfl ?_
      refine sm_getR 1 ii_ho_refusalOfTriples_20 fl_ho_11 (k := 0) rfl ?_
      refine sm_iload_n ii_ho_refusalOfTriples_23 rfl ?_
      refine sm_aald ii_ho_refusalOfTriples_24 (fun r5 => ?_)
      refine sm_dvI [] [] rfl ii_ho_refusalOfTriples_25 ml_ho_89 (mf_rw_isMissing) (mv_rw_isMissing) (Nat.le_of_ble_eq_true rfl) rfl 2 rfl rfl rfl (mc_rw_isMissing (r5) w4) (fun x6 w7 => ?_)
      refine sm_if_eq 40 ii_ho_refusalOfTriples_28 (by decide) ?_ ?_
      · refine sm_aload_n ii_ho_refusalOfTriples_40 rfl ?_
        refine sm_getR 1 ii_ho_refusalOfTriples_41 fl_ho_11 (k := 0) rfl ?_
        refine sm_iload_n ii_ho_refusalOfTriples_44 rfl ?_
        refine sm_aald ii_ho_refusalOfTriples_45 (fun r8 => ?_)
        refine sm_getIs ii_ho_refusalOfTriples_46 fl_ho_78 (fun x9 => ?_)
        refine sm_iconst (3 : Int32) ii_ho_refusalOfTriples_49 (by decide) ?_
        refine sm_irem ii_ho_refusalOfTriples_50 ?_
        refine sm_if_eq 63 ii_ho_refusalOfTriples_51 (by decide) ?_ ?_
        · refine sm_aload_n ii_ho_refusalOfTriples_63 rfl ?_
          refine sm_getR 1 ii_ho_refusalOfTriples_64 fl_ho_11 (k := 0) rfl ?_
          refine sm_iload_n ii_ho_refusalOfTriples_67 rfl ?_
          refine sm_aald ii_ho_refusalOfTriples_68 (fun r11 => ?_)
          refine sm_dvI [] [] rfl ii_ho_refusalOfTriples_69 ml_ho_331 (mf_rw_isOfTriples) (mv_rw_isOfTriples) (Nat.le_of_ble_eq_true rfl) rfl 2 rfl rfl rfl (mc_rw_isOfTriples (r11) w7) (fun x12 w13 => ?_)
          refine sm_if_eq 79 ii_ho_refusalOfTriples_72 (by decide) ?_ ?_
          · refine sm_aload_n ii_ho_refusalOfTriples_79 rfl ?_
            refine sm_getR 60 ii_ho_refusalOfTriples_80 fl_ho_54 (k := 0) rfl ?_
            refine sm_iconst (3 : Int32) ii_ho_refusalOfTriples_83 (by decide) ?_
            refine sm_cvI [.int (3 : Int32)] [] rfl ii_ho_refusalOfTriples_84 ml_ho_85 (mf_td_refuse) (mv_td_refuse) (Nat.le_of_ble_eq_true rfl) rfl 3 rfl rfl rfl rfl (mc_td_refuse ((3 : Int32)) w13) (fun x14 w15 => ?_)
            exact sm_iret ii_ho_refusalOfTriples_87 rfl
          · refine sm_iconst (0 : Int32) ii_ho_refusalOfTriples_75 (by decide) ?_
            refine sm_goto 87 ii_ho_refusalOfTriples_76 (by decide) ?_
            exact sm_iret ii_ho_refusalOfTriples_87 rfl
        · refine sm_aload_n ii_ho_refusalOfTriples_54 rfl ?_
          refine sm_getR 60 ii_ho_refusalOfTriples_55 fl_ho_54 (k := 0) rfl ?_
          refine sm_iconst (5 : Int32) ii_ho_refusalOfTriples_58 (by decide) ?_
          refine sm_cvI [.int (5 : Int32)] [] rfl ii_ho_refusalOfTriples_59 ml_ho_85 (mf_td_refuse) (mv_td_refuse) (Nat.le_of_ble_eq_true rfl) rfl 3 rfl rfl rfl rfl (mc_td_refuse ((5 : Int32)) w7) (fun x16 w17 => ?_)
          exact sm_iret ii_ho_refusalOfTriples_62 rfl
      · refine sm_aload_n ii_ho_refusalOfTriples_31 rfl ?_
        refine sm_getR 60 ii_ho_refusalOfTriples_32 fl_ho_54 (k := 0) rfl ?_
        refine sm_iconst (1 : Int32) ii_ho_refusalOfTriples_35 (by decide) ?_
        refine sm_cvI [.int (1 : Int32)] [] rfl ii_ho_refusalOfTriples_36 ml_ho_85 (mf_td_refuse) (mv_td_refuse) (Nat.le_of_ble_eq_true rfl) rfl 3 rfl rfl rfl rfl (mc_td_refuse ((1 : Int32)) w7) (fun x18 w19 => ?_)
        exact sm_iret ii_ho_refusalOfTriples_39 rfl
set_option maxHeartbeats 4000000 in
set_option maxRecDepth 100000 in
theorem mc_ho_refusalOfTriples (a1 : Int32) (a2 : Int32) (w : sm_Mem) : sm_MC mi_ho_refusalOfTriples [.ref 0, .int a1, .int a2] w (ff_ho_refusalOfTriples a1 a2 w) := sm_MC_of (0, fun _ => 0) (by decide +kernel) (by decide) rfl (Nat.le_of_ble_eq_true rfl) (ss_ho_refusalOfTriples_0 a1 a2 w)
abbrev mi_ho_fits : sm_MI := (⟨"HerOrders", "fits", "(IILHerOrders$Row;)Z"⟩, prog_1_method_59_code, 6, (some .boolean), 2)
set_option maxRecDepth 100000 in
theorem mf_ho_fits : sm_MF mi_ho_fits 3 := ⟨List.mem_of_getElem? (i := 781) (by decide +kernel), List.mem_of_getElem? (i := 124) (by decide +kernel), ⟨by decide, by decide⟩, by decide +kernel⟩
set_option maxRecDepth 100000 in
theorem mv_ho_fits : sm_MFV mi_ho_fits := ⟨List.mem_of_getElem? (i := 780) (by decide +kernel), List.mem_of_getElem? (i := 54) (by decide +kernel)⟩
set_option maxRecDepth 100000 in
theorem ii_ho_fits_0 : sm_D prog_1_method_59_code 0 1 1 (.iconst 0) := ⟨by decide +kernel, rfl⟩
set_option maxRecDepth 100000 in
theorem ii_ho_fits_1 : sm_D prog_1_method_59_code 1 2 3 (.istore 4) := ⟨by decide +kernel, rfl⟩
set_option maxRecDepth 100000 in
theorem ii_ho_fits_3 : sm_D prog_1_method_59_code 3 2 5 (.iload 4) := ⟨by decide +kernel, rfl⟩
set_option maxRecDepth 100000 in
theorem ii_ho_fits_5 : sm_D prog_1_method_59_code 5 1 6 (.iconst 2) := ⟨by decide +kernel, rfl⟩
set_option maxRecDepth 100000 in
theorem ii_ho_fits_6 : sm_D prog_1_method_59_code 6 1 7 (.iadd) := ⟨by decide +kernel, rfl⟩
set_option maxRecDepth 100000 in
theorem ii_ho_fits_7 : sm_D prog_1_method_59_code 7 1 8 (.aload_n 3) := ⟨by decide +kernel, rfl⟩
set_option maxRecDepth 100000 in
theorem ii_ho_fits_8 : sm_D prog_1_method_59_code 8 3 11 (.getfield 78) := ⟨by decide +kernel, rfl⟩
set_option maxRecDepth 100000 in
theorem ii_ho_fits_11 : sm_D prog_1_method_59_code 11 3 14 (.if_icmp .ge 61) := ⟨by decide +kernel, rfl⟩
set_option maxRecDepth 100000 in
theorem ii_ho_fits_14 : sm_D prog_1_method_59_code 14 1 15 (.aload_n 0) := ⟨by decide +kernel, rfl⟩
set_option maxRecDepth 100000 in
theorem ii_ho_fits_15 : sm_D prog_1_method_59_code 15 3 18 (.getfield 31) := ⟨by decide +kernel, rfl⟩
set_option maxRecDepth 100000 in
theorem ii_ho_fits_18 : sm_D prog_1_method_59_code 18 1 19 (.iload_n 1) := ⟨by decide +kernel, rfl⟩
set_option maxRecDepth 100000 in
theorem ii_ho_fits_19 : sm_D prog_1_method_59_code 19 1 20 (.iload_n 2) := ⟨by decide +kernel, rfl⟩
set_option maxRecDepth 100000 in
theorem ii_ho_fits_20 : sm_D prog_1_method_59_code 20 1 21 (.aload_n 3) := ⟨by decide +kernel, rfl⟩
set_option maxRecDepth 100000 in
theorem ii_ho_fits_21 : sm_D prog_1_method_59_code 21 3 24 (.getfield 66) := ⟨by decide +kernel, rfl⟩
set_option maxRecDepth 100000 in
theorem ii_ho_fits_24 : sm_D prog_1_method_59_code 24 2 26 (.iload 4) := ⟨by decide +kernel, rfl⟩
set_option maxRecDepth 100000 in
theorem ii_ho_fits_26 : sm_D prog_1_method_59_code 26 1 27 (.iaload) := ⟨by decide +kernel, rfl⟩
set_option maxRecDepth 100000 in
theorem ii_ho_fits_27 : sm_D prog_1_method_59_code 27 1 28 (.aload_n 3) := ⟨by decide +kernel, rfl⟩
set_option maxRecDepth 100000 in
theorem ii_ho_fits_28 : sm_D prog_1_method_59_code 28 3 31 (.getfield 66) := ⟨by decide +kernel, rfl⟩
set_option maxRecDepth 100000 in
theorem ii_ho_fits_31 : sm_D prog_1_method_59_code 31 2 33 (.iload 4) := ⟨by decide +kernel, rfl⟩
set_option maxRecDepth 100000 in
theorem ii_ho_fits_33 : sm_D prog_1_method_59_code 33 1 34 (.iconst 1) := ⟨by decide +kernel, rfl⟩
set_option maxRecDepth 100000 in
theorem ii_ho_fits_34 : sm_D prog_1_method_59_code 34 1 35 (.iadd) := ⟨by decide +kernel, rfl⟩
set_option maxRecDepth 100000 in
theorem ii_ho_fits_35 : sm_D prog_1_method_59_code 35 1 36 (.iaload) := ⟨by decide +kernel, rfl⟩
set_option maxRecDepth 100000 in
theorem ii_ho_fits_36 : sm_D prog_1_method_59_code 36 3 39 (.invokevirtual 352) := ⟨by decide +kernel, rfl⟩
set_option maxRecDepth 100000 in
theorem ii_ho_fits_39 : sm_D prog_1_method_59_code 39 2 41 (.istore 5) := ⟨by decide +kernel, rfl⟩
set_option maxRecDepth 100000 in
theorem ii_ho_fits_41 : sm_D prog_1_method_59_code 41 2 43 (.iload 5) := ⟨by decide +kernel, rfl⟩
set_option maxRecDepth 100000 in
theorem ii_ho_fits_43 : sm_D prog_1_method_59_code 43 1 44 (.aload_n 3) := ⟨by decide +kernel, rfl⟩
set_option maxRecDepth 100000 in
theorem ii_ho_fits_44 : sm_D prog_1_method_59_code 44 3 47 (.getfield 66) := ⟨by decide +kernel, rfl⟩
set_option maxRecDepth 100000 in
theorem ii_ho_fits_47 : sm_D prog_1_method_59_code 47 2 49 (.iload 4) := ⟨by decide +kernel, rfl⟩
set_option maxRecDepth 100000 in
theorem ii_ho_fits_49 : sm_D prog_1_method_59_code 49 1 50 (.iconst 2) := ⟨by decide +kernel, rfl⟩
set_option maxRecDepth 100000 in
theorem ii_ho_fits_50 : sm_D prog_1_method_59_code 50 1 51 (.iadd) := ⟨by decide +kernel, rfl⟩
set_option maxRecDepth 100000 in
theorem ii_ho_fits_51 : sm_D prog_1_method_59_code 51 1 52 (.iaload) := ⟨by decide +kernel, rfl⟩
set_option maxRecDepth 100000 in
theorem ii_ho_fits_52 : sm_D prog_1_method_59_code 52 1 53 (.iconst 1) := ⟨by decide +kernel, rfl⟩
set_option maxRecDepth 100000 in
theorem ii_ho_fits_53 : sm_D prog_1_method_59_code 53 3 56 (.if_icmp .ne 7) := ⟨by decide +kernel, rfl⟩
set_option maxRecDepth 100000 in
theorem ii_ho_fits_56 : sm_D prog_1_method_59_code 56 1 57 (.iconst 1) := ⟨by decide +kernel, rfl⟩
set_option maxRecDepth 100000 in
theorem ii_ho_fits_57 : sm_D prog_1_method_59_code 57 3 60 (.goto 4) := ⟨by decide +kernel, rfl⟩
set_option maxRecDepth 100000 in
theorem ii_ho_fits_60 : sm_D prog_1_method_59_code 60 1 61 (.iconst 0) := ⟨by decide +kernel, rfl⟩
set_option maxRecDepth 100000 in
theorem ii_ho_fits_61 : sm_D prog_1_method_59_code 61 3 64 (.if_icmp .eq 5) := ⟨by decide +kernel, rfl⟩
set_option maxRecDepth 100000 in
theorem ii_ho_fits_64 : sm_D prog_1_method_59_code 64 1 65 (.iconst 0) := ⟨by decide +kernel, rfl⟩
set_option maxRecDepth 100000 in
theorem ii_ho_fits_65 : sm_D prog_1_method_59_code 65 1 66 (.ireturn) := ⟨by decide +kernel, rfl⟩
set_option maxRecDepth 100000 in
theorem ii_ho_fits_66 : sm_D prog_1_method_59_code 66 3 69 (.iinc 4 3) := ⟨by decide +kernel, rfl⟩
set_option maxRecDepth 100000 in
theorem ii_ho_fits_69 : sm_D prog_1_method_59_code 69 3 72 (.goto (-66)) := ⟨by decide +kernel, rfl⟩
set_option maxRecDepth 100000 in
theorem ii_ho_fits_72 : sm_D prog_1_method_59_code 72 1 73 (.iconst 1) := ⟨by decide +kernel, rfl⟩
set_option maxRecDepth 100000 in
theorem ii_ho_fits_73 : sm_D prog_1_method_59_code 73 1 74 (.ireturn) := ⟨by decide +kernel, rfl⟩
noncomputable def ff_ho_fits_61 (self3 : Int32 → Int32 → Nat → Int32 → sm_Mem → sm_R) (a1 : Int32) (a2 : Int32) (a3 : Nat) (a4 : Int32) (b0 : Int32) (b1 : Int32) (w : sm_Mem) : sm_R := (if b0 = b1 then self3 (a1) (a2) (a3) ((a4 + (3 : Int32))) w else (some (.int (0 : Int32), w)))
set_option maxHeartbeats 4000000 in
set_option maxRecDepth 100000 in
theorem ss_ho_fits_61 {E : Nat × (Nat → Int32)} (self3 : Int32 → Int32 → Nat → Int32 → sm_Mem → sm_R) (hself3 : ∀ (a1 : Int32) (a2 : Int32) (a3 : Nat) (a4 : Int32) (w : sm_Mem), sm_Sim E (mi_ho_fits) 3 [some (.ref 0), some (.int a1), some (.int a2), some (.ref a3), some (.int a4), none] [] w (self3 a1 a2 a3 a4 w)) (a1 : Int32) (a2 : Int32) (a3 : Nat) (a4 : Int32) (b0 : Int32) (b1 : Int32) (w : sm_Mem) : sm_Sim E (mi_ho_fits) 61 [some (.ref 0), some (.int a1), some (.int a2), some (.ref a3), some (.int a4), none] [.int b1, .int b0] w (ff_ho_fits_61 self3 a1 a2 a3 a4 b0 b1 w) := by
  unfold ff_ho_fits_61
  refine sm_icmp_eq 66 ii_ho_fits_61 (by decide) ?_ ?_
  · refine sm_iinc (a4 + (3 : Int32)) [some (.ref 0), some (.int a1), some (.int a2), some (.ref a3), some (.int (a4 + (3 : Int32))), none] ii_ho_fits_66 rfl rfl rfl rfl ?_
    refine sm_goto 3 ii_ho_fits_69 (by decide) ?_
    exact hself3 (a1) (a2) (a3) ((a4 + (3 : Int32))) w
  · refine sm_iconst (0 : Int32) ii_ho_fits_64 (by decide) ?_
    exact sm_zret1 ii_ho_fits_65 rfl (by decide)
noncomputable def ff_ho_fits_3_b  (self3 : Int32 → Int32 → Nat → Int32 → sm_Mem → sm_R) (a1 : Int32) (a2 : Int32) (a3 : Nat) (a4 : Int32) (w : sm_Mem) : sm_R := (Option.bind (sm_gI w a3 2 1) fun x1 => (if x1 ≤ (a4 + (2 : Int32)) then (some (.int (1 : Int32), w)) else (Option.bind (sm_fk a3 2 0 2) fun r2 => (Option.bind (sm_rds w r2 a4) fun x3 => (Option.bind (sm_fk a3 2 0 2) fun r4 => (Option.bind (sm_rds w r4 (a4 + (1 : Int32))) fun x5 => (sm_cI (ff_hs_isAble (a1) (a2) (x3) (x5) w) fun x6 w7 => (Option.bind (sm_fk a3 2 0 2) fun r8 => (Option.bind (sm_rds w7 r8 (a4 + (2 : Int32))) fun x9 => (if x9 = (1 : Int32) then ff_ho_fits_61 self3 (a1) (a2) (a3) (a4) (x6) ((1 : Int32)) w7 else ff_ho_fits_61 self3 (a1) (a2) (a3) (a4) (x6) ((0 : Int32)) w7))))))))))
noncomputable def ff_ho_fits_3_f  : Nat → Int32 → Int32 → Nat → Int32 → sm_Mem → sm_R
  | 0, _, _, _, _, _ => none
  | n + 1, a1, a2, a3, a4, w => ff_ho_fits_3_b  (ff_ho_fits_3_f  n) a1 a2 a3 a4 w
noncomputable def ff_ho_fits_3  (a1 : Int32) (a2 : Int32) (a3 : Nat) (a4 : Int32) (w : sm_Mem) : sm_R := ff_ho_fits_3_f  sm_N a1 a2 a3 a4 w
set_option maxHeartbeats 4000000 in
set_option maxRecDepth 100000 in
theorem ss_ho_fits_3_b {E : Nat × (Nat → Int32)}  (self3 : Int32 → Int32 → Nat → Int32 → sm_Mem → sm_R) (hself3 : ∀ (a1 : Int32) (a2 : Int32) (a3 : Nat) (a4 : Int32) (w : sm_Mem), sm_Sim E (mi_ho_fits) 3 [some (.ref 0), some (.int a1), some (.int a2), some (.ref a3), some (.int a4), none] [] w (self3 a1 a2 a3 a4 w)) (a1 : Int32) (a2 : Int32) (a3 : Nat) (a4 : Int32) (w : sm_Mem) : sm_Sim E (mi_ho_fits) 3 [some (.ref 0), some (.int a1), some (.int a2), some (.ref a3), some (.int a4), none] [] w (ff_ho_fits_3_b  self3 a1 a2 a3 a4 w) := by
  unfold ff_ho_fits_3_b
  refine sm_iload ii_ho_fits_3 rfl ?_
  refine sm_iconst (2 : Int32) ii_ho_fits_5 (by decide) ?_
  refine sm_iadd ii_ho_fits_6 ?_
  refine sm_aload_n ii_ho_fits_7 rfl ?_
  refine sm_getIs ii_ho_fits_8 fl_ho_78 (fun x1 => ?_)
  refine sm_icmp_ge 72 ii_ho_fits_11 (by decide) ?_ ?_
  · refine sm_iconst (1 : Int32) ii_ho_fits_72 (by decide) ?_
    exact sm_zret1 ii_ho_fits_73 rfl (by decide)
  · refine sm_aload_n ii_ho_fits_14 rfl ?_
    refine sm_getR 36 ii_ho_fits_15 fl_ho_31 (k := 0) rfl ?_
    refine sm_iload_n ii_ho_fits_18 rfl ?_
    refine sm_iload_n ii_ho_fits_19 rfl ?_
    refine sm_aload_n ii_ho_fits_20 rfl ?_
    refine sm_getRs ii_ho_fits_21 fl_ho_66 (fun r2 => ?_)
    refine sm_iload ii_ho_fits_24 rfl ?_
    refine sm_ialds ii_ho_fits_26 (fun x3 => ?_)
    refine sm_aload_n ii_ho_fits_27 rfl ?_
    refine sm_getRs ii_ho_fits_28 fl_ho_66 (fun r4 => ?_)
    refine sm_iload ii_ho_fits_31 rfl ?_
    refine sm_iconst (1 : Int32) ii_ho_fits_33 (by decide) ?_
    refine sm_iadd ii_ho_fits_34 ?_
    refine sm_ialds ii_ho_fits_35 (fun x5 => ?_)
    refine sm_cvI [.int a1, .int a2, .int x3, .int x5] [] rfl ii_ho_fits_36 ml_ho_352 (mf_hs_isAble) (mv_hs_isAble) (Nat.le_of_ble_eq_true rfl) rfl 1 rfl rfl rfl rfl (mc_hs_isAble (a1) (a2) (x3) (x5) w) (fun x6 w7 => ?_)
    refine sm_istore [some (.ref 0), some (.int a1), some (.int a2), some (.ref a3), some (.int a4), some (.int x6)] ii_ho_fits_39 rfl rfl ?_
    refine sm_iload ii_ho_fits_41 rfl ?_
    refine sm_aload_n ii_ho_fits_43 rfl ?_
    refine sm_getRs ii_ho_fits_44 fl_ho_66 (fun r8 => ?_)
    refine sm_iload ii_ho_fits_47 rfl ?_
    refine sm_iconst (2 : Int32) ii_ho_fits_49 (by decide) ?_
    refine sm_iadd ii_ho_fits_50 ?_
    refine sm_ialds ii_ho_fits_51 (fun x9 => ?_)
    refine sm_iconst (1 : Int32) ii_ho_fits_52 (by decide) ?_
    refine sm_icmp_ne 60 ii_ho_fits_53 (by decide) ?_ ?_
    · refine sm_iconst (1 : Int32) ii_ho_fits_56 (by decide) ?_
      refine sm_goto 61 ii_ho_fits_57 (by decide) ?_
      refine sm_msk [true, true, true, true, true, false] [some (.ref 0), some (.int a1), some (.int a2), some (.ref a3), some (.int a4), none] rfl ?_
      exact ss_ho_fits_61 self3 hself3 (a1) (a2) (a3) (a4) (x6) ((1 : Int32)) w7
    · refine sm_iconst (0 : Int32) ii_ho_fits_60 (by decide) ?_
      refine sm_msk [true, true, true, true, true, false] [some (.ref 0), some (.int a1), some (.int a2), some (.ref a3), some (.int a4), none] rfl ?_
      exact ss_ho_fits_61 self3 hself3 (a1) (a2) (a3) (a4) (x6) ((0 : Int32)) w7
set_option maxHeartbeats 4000000 in
set_option maxRecDepth 100000 in
theorem ss_ho_fits_3_f {E : Nat × (Nat → Int32)}  : ∀ (n : Nat) (a1 : Int32) (a2 : Int32) (a3 : Nat) (a4 : Int32) (w : sm_Mem), sm_Sim E (mi_ho_fits) 3 [some (.ref 0), some (.int a1), some (.int a2), some (.ref a3), some (.int a4), none] [] w (ff_ho_fits_3_f  n a1 a2 a3 a4 w)
  | 0, _, _, _, _, _ => fun _ _ h => by cases h
  | n + 1, a1, a2, a3, a4, w => ss_ho_fits_3_b  _ (ss_ho_fits_3_f  n) a1 a2 a3 a4 w
set_option maxHeartbeats 4000000 in
set_option maxRecDepth 100000 in
theorem ss_ho_fits_3 {E : Nat × (Nat → Int32)}  (a1 : Int32) (a2 : Int32) (a3 : Nat) (a4 : Int32) (w : sm_Mem) : sm_Sim E (mi_ho_fits) 3 [some (.ref 0), some (.int a1), some (.int a2), some (.ref a3), some (.int a4), none] [] w (ff_ho_fits_3  a1 a2 a3 a4 w) := ss_ho_fits_3_f  sm_N a1 a2 a3 a4 w
noncomputable def ff_ho_fits  (a1 : Int32) (a2 : Int32) (a3 : Nat) (w : sm_Mem) : sm_R := ff_ho_fits_3 (a1) (a2) (a3) ((0 : Int32)) w
set_option maxHeartbeats 4000000 in
set_option maxRecDepth 100000 in
theorem ss_ho_fits_0 {E : Nat × (Nat → Int32)}  (a1 : Int32) (a2 : Int32) (a3 : Nat) (w : sm_Mem) : sm_Sim E (mi_ho_fits) 0 [some (.ref 0), some (.int a1), some (.int a2), some (.ref a3), none, none] [] w (ff_ho_fits  a1 a2 a3 w) := by
  unfold ff_ho_fits
  refine sm_iconst (0 : Int32) ii_ho_fits_0 (by decide) ?_
  refine sm_istore [some (.ref 0), some (.int a1), some (.int a2), some (.ref a3), some (.int (0 : Int32)), none] ii_ho_fits_1 rfl rfl ?_
  exact ss_ho_fits_3 (a1) (a2) (a3) ((0 : Int32)) w
set_option maxHeartbeats 4000000 in
set_option maxRecDepth 100000 in
theorem mc_ho_fits (a1 : Int32) (a2 : Int32) (a3 : Nat) (w : sm_Mem) : sm_MC mi_ho_fits [.ref 0, .int a1, .int a2, .ref a3] w (ff_ho_fits a1 a2 a3 w) := sm_MC_of (0, fun _ => 0) (by decide +kernel) (by decide) rfl (Nat.le_of_ble_eq_true rfl) (ss_ho_fits_0 a1 a2 a3 w)
abbrev mi_ho_kindsBy : sm_MI := (⟨"HerOrders", "kindsBy", "(ILHerOrders$Row;)I"⟩, prog_1_method_58_code, 5, (some .int), 3)
set_option maxRecDepth 100000 in
theorem mf_ho_kindsBy : sm_MF mi_ho_kindsBy 2 := ⟨List.mem_of_getElem? (i := 777) (by decide +kernel), List.mem_of_getElem? (i := 124) (by decide +kernel), ⟨by decide, by decide⟩, by decide +kernel⟩
set_option maxRecDepth 100000 in
theorem mv_ho_kindsBy : sm_MFV mi_ho_kindsBy := ⟨List.mem_of_getElem? (i := 776) (by decide +kernel), List.mem_of_getElem? (i := 53) (by decide +kernel)⟩
set_option maxRecDepth 100000 in
theorem ii_ho_kindsBy_0 : sm_D prog_1_method_58_code 0 1 1 (.iconst 0) := ⟨by decide +kernel, rfl⟩
set_option maxRecDepth 100000 in
theorem ii_ho_kindsBy_1 : sm_D prog_1_method_58_code 1 1 2 (.istore_n 3) := ⟨by decide +kernel, rfl⟩
set_option maxRecDepth 100000 in
theorem ii_ho_kindsBy_2 : sm_D prog_1_method_58_code 2 1 3 (.iconst 0) := ⟨by decide +kernel, rfl⟩
set_option maxRecDepth 100000 in
theorem ii_ho_kindsBy_3 : sm_D prog_1_method_58_code 3 2 5 (.istore 4) := ⟨by decide +kernel, rfl⟩
set_option maxRecDepth 100000 in
theorem ii_ho_kindsBy_5 : sm_D prog_1_method_58_code 5 2 7 (.iload 4) := ⟨by decide +kernel, rfl⟩
set_option maxRecDepth 100000 in
theorem ii_ho_kindsBy_7 : sm_D prog_1_method_58_code 7 2 9 (.bipush 6) := ⟨by decide +kernel, rfl⟩
set_option maxRecDepth 100000 in
theorem ii_ho_kindsBy_9 : sm_D prog_1_method_58_code 9 3 12 (.if_icmp .ge 27) := ⟨by decide +kernel, rfl⟩
set_option maxRecDepth 100000 in
theorem ii_ho_kindsBy_12 : sm_D prog_1_method_58_code 12 1 13 (.aload_n 0) := ⟨by decide +kernel, rfl⟩
set_option maxRecDepth 100000 in
theorem ii_ho_kindsBy_13 : sm_D prog_1_method_58_code 13 1 14 (.iload_n 1) := ⟨by decide +kernel, rfl⟩
set_option maxRecDepth 100000 in
theorem ii_ho_kindsBy_14 : sm_D prog_1_method_58_code 14 2 16 (.iload 4) := ⟨by decide +kernel, rfl⟩
set_option maxRecDepth 100000 in
theorem ii_ho_kindsBy_16 : sm_D prog_1_method_58_code 16 1 17 (.aload_n 2) := ⟨by decide +kernel, rfl⟩
set_option maxRecDepth 100000 in
theorem ii_ho_kindsBy_17 : sm_D prog_1_method_58_code 17 3 20 (.invokevirtual 348) := ⟨by decide +kernel, rfl⟩
set_option maxRecDepth 100000 in
theorem ii_ho_kindsBy_20 : sm_D prog_1_method_58_code 20 3 23 (.ifCond .eq 10) := ⟨by decide +kernel, rfl⟩
set_option maxRecDepth 100000 in
theorem ii_ho_kindsBy_23 : sm_D prog_1_method_58_code 23 1 24 (.iload_n 3) := ⟨by decide +kernel, rfl⟩
set_option maxRecDepth 100000 in
theorem ii_ho_kindsBy_24 : sm_D prog_1_method_58_code 24 1 25 (.iconst 1) := ⟨by decide +kernel, rfl⟩
set_option maxRecDepth 100000 in
theorem ii_ho_kindsBy_25 : sm_D prog_1_method_58_code 25 2 27 (.iload 4) := ⟨by decide +kernel, rfl⟩
set_option maxRecDepth 100000 in
theorem ii_ho_kindsBy_27 : sm_D prog_1_method_58_code 27 1 28 (.ishl) := ⟨by decide +kernel, rfl⟩
set_option maxRecDepth 100000 in
theorem ii_ho_kindsBy_28 : sm_D prog_1_method_58_code 28 1 29 (.ior) := ⟨by decide +kernel, rfl⟩
set_option maxRecDepth 100000 in
theorem ii_ho_kindsBy_29 : sm_D prog_1_method_58_code 29 1 30 (.istore_n 3) := ⟨by decide +kernel, rfl⟩
set_option maxRecDepth 100000 in
theorem ii_ho_kindsBy_30 : sm_D prog_1_method_58_code 30 3 33 (.iinc 4 1) := ⟨by decide +kernel, rfl⟩
set_option maxRecDepth 100000 in
theorem ii_ho_kindsBy_33 : sm_D prog_1_method_58_code 33 3 36 (.goto (-28)) := ⟨by decide +kernel, rfl⟩
set_option maxRecDepth 100000 in
theorem ii_ho_kindsBy_36 : sm_D prog_1_method_58_code 36 1 37 (.iload_n 3) := ⟨by decide +kernel, rfl⟩
set_option maxRecDepth 100000 in
theorem ii_ho_kindsBy_37 : sm_D prog_1_method_58_code 37 1 38 (.ireturn) := ⟨by decide +kernel, rfl⟩
noncomputable def ff_ho_kindsBy_5_b  (self5 : Int32 → Nat → Int32 → Int32 → sm_Mem → sm_R) (a1 : Int32) (a2 : Nat) (a3 : Int32) (a4 : Int32) (w : sm_Mem) : sm_R := (if (6 : Int32) ≤ a4 then (some (.int a3, w)) else (sm_cI (ff_ho_fits (a1) (a4) (a2) w) fun x1 w2 => (if x1 = (0 : Int32) then self5 (a1) (a2) (a3) ((a4 + (1 : Int32))) w2 else self5 (a1) (a2) ((a3 ||| ((1 : Int32) <<< (a4 &&& (31 : Int32))))) ((a4 + (1 : Int32))) w2)))
noncomputable def ff_ho_kindsBy_5_f  : Nat → Int32 → Nat → Int32 → Int32 → sm_Mem → sm_R
  | 0, _, _, _, _, _ => none
  | n + 1, a1, a2, a3, a4, w => ff_ho_kindsBy_5_b  (ff_ho_kindsBy_5_f  n) a1 a2 a3 a4 w
noncomputable def ff_ho_kindsBy_5  (a1 : Int32) (a2 : Nat) (a3 : Int32) (a4 : Int32) (w : sm_Mem) : sm_R := ff_ho_kindsBy_5_f  sm_N a1 a2 a3 a4 w
set_option maxHeartbeats 4000000 in
set_option maxRecDepth 100000 in
theorem ss_ho_kindsBy_5_b {E : Nat × (Nat → Int32)}  (self5 : Int32 → Nat → Int32 → Int32 → sm_Mem → sm_R) (hself5 : ∀ (a1 : Int32) (a2 : Nat) (a3 : Int32) (a4 : Int32) (w : sm_Mem), sm_Sim E (mi_ho_kindsBy) 5 [some (.ref 0), some (.int a1), some (.ref a2), some (.int a3), some (.int a4)] [] w (self5 a1 a2 a3 a4 w)) (a1 : Int32) (a2 : Nat) (a3 : Int32) (a4 : Int32) (w : sm_Mem) : sm_Sim E (mi_ho_kindsBy) 5 [some (.ref 0), some (.int a1), some (.ref a2), some (.int a3), some (.int a4)] [] w (ff_ho_kindsBy_5_b  self5 a1 a2 a3 a4 w) := by
  unfold ff_ho_kindsBy_5_b
  refine sm_iload ii_ho_kindsBy_5 rfl ?_
  refine sm_bipush (6 : Int32) ii_ho_kindsBy_7 (by decide) ?_
  refine sm_icmp_ge 36 ii_ho_kindsBy_9 (by decide) ?_ ?_
  · refine sm_iload_n ii_ho_kindsBy_36 rfl ?_
    exact sm_iret ii_ho_kindsBy_37 rfl
  · refine sm_aload_n ii_ho_kindsBy_12 rfl ?_
    refine sm_iload_n ii_ho_kindsBy_13 rfl ?_
    refine sm_iload ii_ho_kindsBy_14 rfl ?_
    refine sm_aload_n ii_ho_kindsBy_16 rfl ?_
    refine sm_cvI [.int a1, .int a4, .ref a2] [] rfl ii_ho_kindsBy_17 ml_ho_348 (mf_ho_fits) (mv_ho_fits) (Nat.le_of_ble_eq_true rfl) rfl 6 rfl rfl rfl rfl (mc_ho_fits (a1) (a4) (a2) w) (fun x1 w2 => ?_)
    refine sm_if_eq 30 ii_ho_kindsBy_20 (by decide) ?_ ?_
    · refine sm_iinc (a4 + (1 : Int32)) [some (.ref 0), some (.int a1), some (.ref a2), some (.int a3), some (.int (a4 + (1 : Int32)))] ii_ho_kindsBy_30 rfl rfl rfl rfl ?_
      refine sm_goto 5 ii_ho_kindsBy_33 (by decide) ?_
      exact hself5 (a1) (a2) (a3) ((a4 + (1 : Int32))) w2
    · refine sm_iload_n ii_ho_kindsBy_23 rfl ?_
      refine sm_iconst (1 : Int32) ii_ho_kindsBy_24 (by decide) ?_
      refine sm_iload ii_ho_kindsBy_25 rfl ?_
      refine sm_ishl ii_ho_kindsBy_27 ?_
      refine sm_ior ii_ho_kindsBy_28 ?_
      refine sm_istore_n [some (.ref 0), some (.int a1), some (.ref a2), some (.int (a3 ||| ((1 : Int32) <<< (a4 &&& (31 : Int32))))), some (.int a4)] ii_ho_kindsBy_29 rfl rfl ?_
      refine sm_iinc (a4 + (1 : Int32)) [some (.ref 0), some (.int a1), some (.ref a2), some (.int (a3 ||| ((1 : Int32) <<< (a4 &&& (31 : Int32))))), some (.int (a4 + (1 : Int32)))] ii_ho_kindsBy_30 rfl rfl rfl rfl ?_
      refine sm_goto 5 ii_ho_kindsBy_33 (by decide) ?_
      exact hself5 (a1) (a2) ((a3 ||| ((1 : Int32) <<< (a4 &&& (31 : Int32))))) ((a4 + (1 : Int32))) w2
set_option maxHeartbeats 4000000 in
set_option maxRecDepth 100000 in
theorem ss_ho_kindsBy_5_f {E : Nat × (Nat → Int32)}  : ∀ (n : Nat) (a1 : Int32) (a2 : Nat) (a3 : Int32) (a4 : Int32) (w : sm_Mem), sm_Sim E (mi_ho_kindsBy) 5 [some (.ref 0), some (.int a1), some (.ref a2), some (.int a3), some (.int a4)] [] w (ff_ho_kindsBy_5_f  n a1 a2 a3 a4 w)
  | 0, _, _, _, _, _ => fun _ _ h => by cases h
  | n + 1, a1, a2, a3, a4, w => ss_ho_kindsBy_5_b  _ (ss_ho_kindsBy_5_f  n) a1 a2 a3 a4 w
set_option maxHeartbeats 4000000 in
set_option maxRecDepth 100000 in
theorem ss_ho_kindsBy_5 {E : Nat × (Nat → Int32)}  (a1 : Int32) (a2 : Nat) (a3 : Int32) (a4 : Int32) (w : sm_Mem) : sm_Sim E (mi_ho_kindsBy) 5 [some (.ref 0), some (.int a1), some (.ref a2), some (.int a3), some (.int a4)] [] w (ff_ho_kindsBy_5  a1 a2 a3 a4 w) := ss_ho_kindsBy_5_f  sm_N a1 a2 a3 a4 w
noncomputable def ff_ho_kindsBy  (a1 : Int32) (a2 : Nat) (w : sm_Mem) : sm_R := ff_ho_kindsBy_5 (a1) (a2) ((0 : Int32)) ((0 : Int32)) w
set_option maxHeartbeats 4000000 in
set_option maxRecDepth 100000 in
theorem ss_ho_kindsBy_0 {E : Nat × (Nat → Int32)}  (a1 : Int32) (a2 : Nat) (w : sm_Mem) : sm_Sim E (mi_ho_kindsBy) 0 [some (.ref 0), some (.int a1), some (.ref a2), none, none] [] w (ff_ho_kindsBy  a1 a2 w) := by
  unfold ff_ho_kindsBy
  refine sm_iconst (0 : Int32) ii_ho_kindsBy_0 (by decide) ?_
  refine sm_istore_n [some (.ref 0), some (.int a1), some (.ref a2), some (.int (0 : Int32)), none] ii_ho_kindsBy_1 rfl rfl ?_
  refine sm_iconst (0 : Int32) ii_ho_kindsBy_2 (by decide) ?_
  refine sm_istore [some (.ref 0), some (.int a1), some (.ref a2), some (.int (0 : Int32)), some (.int (0 : Int32))] ii_ho_kindsBy_3 rfl rfl ?_
  exact ss_ho_kindsBy_5 (a1) (a2) ((0 : Int32)) ((0 : Int32)) w
set_option maxHeartbeats 4000000 in
set_option maxRecDepth 100000 in
theorem mc_ho_kindsBy (a1 : Int32) (a2 : Nat) (w : sm_Mem) : sm_MC mi_ho_kindsBy [.ref 0, .int a1, .ref a2] w (ff_ho_kindsBy a1 a2 w) := sm_MC_of (0, fun _ => 0) (by decide +kernel) (by decide) rfl (Nat.le_of_ble_eq_true rfl) (ss_ho_kindsBy_0 a1 a2 w)
abbrev mi_ho_kinds : sm_MI := (⟨"HerOrders", "kinds", "(II)I"⟩, prog_1_method_31_code, 4, (some .int), 4)
set_option maxRecDepth 100000 in
theorem mf_ho_kinds : sm_MF mi_ho_kinds 2 := ⟨List.mem_of_getElem? (i := 765) (by decide +kernel), List.mem_of_getElem? (i := 124) (by decide +kernel), ⟨by decide, by decide⟩, by decide +kernel⟩
set_option maxRecDepth 100000 in
theorem mv_ho_kinds : sm_MFV mi_ho_kinds := ⟨List.mem_of_getElem? (i := 763) (by decide +kernel), List.mem_of_getElem? (i := 764) (by decide +kernel)⟩
set_option maxRecDepth 100000 in
theorem ii_ho_kinds_0 : sm_D prog_1_method_31_code 0 1 1 (.aload_n 0) := ⟨by decide +kernel, rfl⟩
set_option maxRecDepth 100000 in
theorem ii_ho_kinds_1 : sm_D prog_1_method_31_code 1 1 2 (.iload_n 1) := ⟨by decide +kernel, rfl⟩
set_option maxRecDepth 100000 in
theorem ii_ho_kinds_2 : sm_D prog_1_method_31_code 2 1 3 (.iload_n 2) := ⟨by decide +kernel, rfl⟩
set_option maxRecDepth 100000 in
theorem ii_ho_kinds_3 : sm_D prog_1_method_31_code 3 3 6 (.invokevirtual 255) := ⟨by decide +kernel, rfl⟩
set_option maxRecDepth 100000 in
theorem ii_ho_kinds_6 : sm_D prog_1_method_31_code 6 1 7 (.istore_n 3) := ⟨by decide +kernel, rfl⟩
set_option maxRecDepth 100000 in
theorem ii_ho_kinds_7 : sm_D prog_1_method_31_code 7 1 8 (.iload_n 3) := ⟨by decide +kernel, rfl⟩
set_option maxRecDepth 100000 in
theorem ii_ho_kinds_8 : sm_D prog_1_method_31_code 8 3 11 (.ifCond .eq 5) := ⟨by decide +kernel, rfl⟩
set_option maxRecDepth 100000 in
theorem ii_ho_kinds_11 : sm_D prog_1_method_31_code 11 1 12 (.iload_n 3) := ⟨by decide +kernel, rfl⟩
set_option maxRecDepth 100000 in
theorem ii_ho_kinds_12 : sm_D prog_1_method_31_code 12 1 13 (.ireturn) := ⟨by decide +kernel, rfl⟩
set_option maxRecDepth 100000 in
theorem ii_ho_kinds_13 : sm_D prog_1_method_31_code 13 1 14 (.aload_n 0) := ⟨by decide +kernel, rfl⟩
set_option maxRecDepth 100000 in
theorem ii_ho_kinds_14 : sm_D prog_1_method_31_code 14 1 15 (.iload_n 1) := ⟨by decide +kernel, rfl⟩
set_option maxRecDepth 100000 in
theorem ii_ho_kinds_15 : sm_D prog_1_method_31_code 15 1 16 (.aload_n 0) := ⟨by decide +kernel, rfl⟩
set_option maxRecDepth 100000 in
theorem ii_ho_kinds_16 : sm_D prog_1_method_31_code 16 3 19 (.getfield 11) := ⟨by decide +kernel, rfl⟩
set_option maxRecDepth 100000 in
theorem ii_ho_kinds_19 : sm_D prog_1_method_31_code 19 1 20 (.iload_n 2) := ⟨by decide +kernel, rfl⟩
set_option maxRecDepth 100000 in
theorem ii_ho_kinds_20 : sm_D prog_1_method_31_code 20 1 21 (.aaload) := ⟨by decide +kernel, rfl⟩
set_option maxRecDepth 100000 in
theorem ii_ho_kinds_21 : sm_D prog_1_method_31_code 21 3 24 (.invokevirtual 258) := ⟨by decide +kernel, rfl⟩
set_option maxRecDepth 100000 in
theorem ii_ho_kinds_24 : sm_D prog_1_method_31_code 24 1 25 (.ireturn) := ⟨by decide +kernel, rfl⟩
noncomputable def ff_ho_kinds  (a1 : Int32) (a2 : Int32) (w : sm_Mem) : sm_R := (sm_cI (ff_ho_refusalOfTriples (a1) (a2) w) fun x1 w2 => (if x1 = (0 : Int32) then (Option.bind (sm_rr 1 a2) fun r3 => (sm_cI (ff_ho_kindsBy (a1) (r3) w2) fun x4 w5 => (some (.int x4, w5)))) else (some (.int x1, w2))))
set_option maxHeartbeats 4000000 in
set_option maxRecDepth 100000 in
theorem ss_ho_kinds_0 {E : Nat × (Nat → Int32)}  (a1 : Int32) (a2 : Int32) (w : sm_Mem) : sm_Sim E (mi_ho_kinds) 0 [some (.ref 0), some (.int a1), some (.int a2), none] [] w (ff_ho_kinds  a1 a2 w) := by
  unfold ff_ho_kinds
  refine sm_aload_n ii_ho_kinds_0 rfl ?_
  refine sm_iload_n ii_ho_kinds_1 rfl ?_
  refine sm_iload_n ii_ho_kinds_2 rfl ?_
  refine sm_cvI [.int a1, .int a2] [] rfl ii_ho_kinds_3 ml_ho_255 (mf_ho_refusalOfTriples) (mv_ho_refusalOfTriples) (Nat.le_of_ble_eq_true rfl) rfl 6 rfl rfl rfl rfl (mc_ho_refusalOfTriples (a1) (a2) w) (fun x1 w2 => ?_)
  refine sm_istore_n [some (.ref 0), some (.int a1), some (.int a2), some (.int x1)] ii_ho_kinds_6 rfl rfl ?_
  refine sm_iload_n ii_ho_kinds_7 rfl ?_
  refine sm_if_eq 13 ii_ho_kinds_8 (by decide) ?_ ?_
  · refine sm_aload_n ii_ho_kinds_13 rfl ?_
    refine sm_iload_n ii_ho_kinds_14 rfl ?_
    refine sm_aload_n ii_ho_kinds_15 rfl ?_
    refine sm_getR 1 ii_ho_kinds_16 fl_ho_11 (k := 0) rfl ?_
    refine sm_iload_n ii_ho_kinds_19 rfl ?_
    refine sm_aald ii_ho_kinds_20 (fun r3 => ?_)
    refine sm_cvI [.int a1, .ref r3] [] rfl ii_ho_kinds_21 ml_ho_258 (mf_ho_kindsBy) (mv_ho_kindsBy) (Nat.le_of_ble_eq_true rfl) rfl 6 rfl rfl rfl rfl (mc_ho_kindsBy (a1) (r3) w2) (fun x4 w5 => ?_)
    exact sm_iret ii_ho_kinds_24 rfl
  · refine sm_iload_n ii_ho_kinds_11 rfl ?_
    exact sm_iret ii_ho_kinds_12 rfl
set_option maxHeartbeats 4000000 in
set_option maxRecDepth 100000 in
theorem mc_ho_kinds (a1 : Int32) (a2 : Int32) (w : sm_Mem) : sm_MC mi_ho_kinds [.ref 0, .int a1, .int a2] w (ff_ho_kinds a1 a2 w) := sm_MC_of (0, fun _ => 0) (by decide +kernel) (by decide) rfl (Nat.le_of_ble_eq_true rfl) (ss_ho_kinds_0 a1 a2 w)
abbrev mi_mo_noTriples : sm_MI := (⟨"HerOrdersModel", "noTriples", "(I)I"⟩, prog_9_method_79_code, 4, (some .int), 3)
set_option maxRecDepth 100000 in
theorem mf_mo_noTriples : sm_MF mi_mo_noTriples 1 := ⟨List.mem_of_getElem? (i := 1338) (by decide +kernel), List.mem_of_getElem? (i := 132) (by decide +kernel), ⟨by decide, by decide⟩, by decide +kernel⟩
set_option maxRecDepth 100000 in
theorem mv_mo_noTriples : sm_MFV mi_mo_noTriples := ⟨List.mem_of_getElem? (i := 1337) (by decide +kernel), List.mem_of_getElem? (i := 110) (by decide +kernel)⟩
set_option maxRecDepth 100000 in
theorem ii_mo_noTriples_0 : sm_D prog_9_method_79_code 0 1 1 (.aload_n 0) := ⟨by decide +kernel, rfl⟩
set_option maxRecDepth 100000 in
theorem ii_mo_noTriples_1 : sm_D prog_9_method_79_code 1 3 4 (.getfield 22) := ⟨by decide +kernel, rfl⟩
set_option maxRecDepth 100000 in
theorem ii_mo_noTriples_4 : sm_D prog_9_method_79_code 4 1 5 (.iload_n 1) := ⟨by decide +kernel, rfl⟩
set_option maxRecDepth 100000 in
theorem ii_mo_noTriples_5 : sm_D prog_9_method_79_code 5 1 6 (.iaload) := ⟨by decide +kernel, rfl⟩
set_option maxRecDepth 100000 in
theorem ii_mo_noTriples_6 : sm_D prog_9_method_79_code 6 3 9 (.ifCond .ge 9) := ⟨by decide +kernel, rfl⟩
set_option maxRecDepth 100000 in
theorem ii_mo_noTriples_9 : sm_D prog_9_method_79_code 9 1 10 (.aload_n 0) := ⟨by decide +kernel, rfl⟩
set_option maxRecDepth 100000 in
theorem ii_mo_noTriples_10 : sm_D prog_9_method_79_code 10 1 11 (.iconst 1) := ⟨by decide +kernel, rfl⟩
set_option maxRecDepth 100000 in
theorem ii_mo_noTriples_11 : sm_D prog_9_method_79_code 11 3 14 (.invokevirtual 81) := ⟨by decide +kernel, rfl⟩
set_option maxRecDepth 100000 in
theorem ii_mo_noTriples_14 : sm_D prog_9_method_79_code 14 1 15 (.ireturn) := ⟨by decide +kernel, rfl⟩
set_option maxRecDepth 100000 in
theorem ii_mo_noTriples_15 : sm_D prog_9_method_79_code 15 1 16 (.aload_n 0) := ⟨by decide +kernel, rfl⟩
set_option maxRecDepth 100000 in
theorem ii_mo_noTriples_16 : sm_D prog_9_method_79_code 16 3 19 (.getfield 22) := ⟨by decide +kernel, rfl⟩
set_option maxRecDepth 100000 in
theorem ii_mo_noTriples_19 : sm_D prog_9_method_79_code 19 1 20 (.iload_n 1) := ⟨by decide +kernel, rfl⟩
set_option maxRecDepth 100000 in
theorem ii_mo_noTriples_20 : sm_D prog_9_method_79_code 20 1 21 (.iaload) := ⟨by decide +kernel, rfl⟩
set_option maxRecDepth 100000 in
theorem ii_mo_noTriples_21 : sm_D prog_9_method_79_code 21 1 22 (.iconst 3) := ⟨by decide +kernel, rfl⟩
set_option maxRecDepth 100000 in
theorem ii_mo_noTriples_22 : sm_D prog_9_method_79_code 22 1 23 (.irem) := ⟨by decide +kernel, rfl⟩
set_option maxRecDepth 100000 in
theorem ii_mo_noTriples_23 : sm_D prog_9_method_79_code 23 3 26 (.ifCond .eq 9) := ⟨by decide +kernel, rfl⟩
set_option maxRecDepth 100000 in
theorem ii_mo_noTriples_26 : sm_D prog_9_method_79_code 26 1 27 (.aload_n 0) := ⟨by decide +kernel, rfl⟩
set_option maxRecDepth 100000 in
theorem ii_mo_noTriples_27 : sm_D prog_9_method_79_code 27 1 28 (.iconst 5) := ⟨by decide +kernel, rfl⟩
set_option maxRecDepth 100000 in
theorem ii_mo_noTriples_28 : sm_D prog_9_method_79_code 28 3 31 (.invokevirtual 81) := ⟨by decide +kernel, rfl⟩
set_option maxRecDepth 100000 in
theorem ii_mo_noTriples_31 : sm_D prog_9_method_79_code 31 1 32 (.ireturn) := ⟨by decide +kernel, rfl⟩
set_option maxRecDepth 100000 in
theorem ii_mo_noTriples_32 : sm_D prog_9_method_79_code 32 1 33 (.iconst 1) := ⟨by decide +kernel, rfl⟩
set_option maxRecDepth 100000 in
theorem ii_mo_noTriples_33 : sm_D prog_9_method_79_code 33 1 34 (.istore_n 2) := ⟨by decide +kernel, rfl⟩
set_option maxRecDepth 100000 in
theorem ii_mo_noTriples_34 : sm_D prog_9_method_79_code 34 2 36 (.bipush 40) := ⟨by decide +kernel, rfl⟩
set_option maxRecDepth 100000 in
theorem ii_mo_noTriples_36 : sm_D prog_9_method_79_code 36 1 37 (.iload_n 1) := ⟨by decide +kernel, rfl⟩
set_option maxRecDepth 100000 in
theorem ii_mo_noTriples_37 : sm_D prog_9_method_79_code 37 1 38 (.imul) := ⟨by decide +kernel, rfl⟩
set_option maxRecDepth 100000 in
theorem ii_mo_noTriples_38 : sm_D prog_9_method_79_code 38 1 39 (.istore_n 3) := ⟨by decide +kernel, rfl⟩
set_option maxRecDepth 100000 in
theorem ii_mo_noTriples_39 : sm_D prog_9_method_79_code 39 1 40 (.iload_n 3) := ⟨by decide +kernel, rfl⟩
set_option maxRecDepth 100000 in
theorem ii_mo_noTriples_40 : sm_D prog_9_method_79_code 40 2 42 (.bipush 40) := ⟨by decide +kernel, rfl⟩
set_option maxRecDepth 100000 in
theorem ii_mo_noTriples_42 : sm_D prog_9_method_79_code 42 1 43 (.iload_n 1) := ⟨by decide +kernel, rfl⟩
set_option maxRecDepth 100000 in
theorem ii_mo_noTriples_43 : sm_D prog_9_method_79_code 43 1 44 (.imul) := ⟨by decide +kernel, rfl⟩
set_option maxRecDepth 100000 in
theorem ii_mo_noTriples_44 : sm_D prog_9_method_79_code 44 1 45 (.aload_n 0) := ⟨by decide +kernel, rfl⟩
set_option maxRecDepth 100000 in
theorem ii_mo_noTriples_45 : sm_D prog_9_method_79_code 45 3 48 (.getfield 22) := ⟨by decide +kernel, rfl⟩
set_option maxRecDepth 100000 in
theorem ii_mo_noTriples_48 : sm_D prog_9_method_79_code 48 1 49 (.iload_n 1) := ⟨by decide +kernel, rfl⟩
set_option maxRecDepth 100000 in
theorem ii_mo_noTriples_49 : sm_D prog_9_method_79_code 49 1 50 (.iaload) := ⟨by decide +kernel, rfl⟩
set_option maxRecDepth 100000 in
theorem ii_mo_noTriples_50 : sm_D prog_9_method_79_code 50 1 51 (.iadd) := ⟨by decide +kernel, rfl⟩
set_option maxRecDepth 100000 in
theorem ii_mo_noTriples_51 : sm_D prog_9_method_79_code 51 3 54 (.if_icmp .ge 73) := ⟨by decide +kernel, rfl⟩
set_option maxRecDepth 100000 in
theorem ii_mo_noTriples_54 : sm_D prog_9_method_79_code 54 1 55 (.iload_n 2) := ⟨by decide +kernel, rfl⟩
set_option maxRecDepth 100000 in
theorem ii_mo_noTriples_55 : sm_D prog_9_method_79_code 55 3 58 (.ifCond .eq 61) := ⟨by decide +kernel, rfl⟩
set_option maxRecDepth 100000 in
theorem ii_mo_noTriples_58 : sm_D prog_9_method_79_code 58 1 59 (.aload_n 0) := ⟨by decide +kernel, rfl⟩
set_option maxRecDepth 100000 in
theorem ii_mo_noTriples_59 : sm_D prog_9_method_79_code 59 3 62 (.getfield 25) := ⟨by decide +kernel, rfl⟩
set_option maxRecDepth 100000 in
theorem ii_mo_noTriples_62 : sm_D prog_9_method_79_code 62 1 63 (.iload_n 3) := ⟨by decide +kernel, rfl⟩
set_option maxRecDepth 100000 in
theorem ii_mo_noTriples_63 : sm_D prog_9_method_79_code 63 1 64 (.iaload) := ⟨by decide +kernel, rfl⟩
set_option maxRecDepth 100000 in
theorem ii_mo_noTriples_64 : sm_D prog_9_method_79_code 64 3 67 (.invokestatic 184) := ⟨by decide +kernel, rfl⟩
set_option maxRecDepth 100000 in
theorem ii_mo_noTriples_67 : sm_D prog_9_method_79_code 67 3 70 (.ifCond .ne 14) := ⟨by decide +kernel, rfl⟩
set_option maxRecDepth 100000 in
theorem ii_mo_noTriples_70 : sm_D prog_9_method_79_code 70 1 71 (.aload_n 0) := ⟨by decide +kernel, rfl⟩
set_option maxRecDepth 100000 in
theorem ii_mo_noTriples_71 : sm_D prog_9_method_79_code 71 3 74 (.getfield 25) := ⟨by decide +kernel, rfl⟩
set_option maxRecDepth 100000 in
theorem ii_mo_noTriples_74 : sm_D prog_9_method_79_code 74 1 75 (.iload_n 3) := ⟨by decide +kernel, rfl⟩
set_option maxRecDepth 100000 in
theorem ii_mo_noTriples_75 : sm_D prog_9_method_79_code 75 1 76 (.iaload) := ⟨by decide +kernel, rfl⟩
set_option maxRecDepth 100000 in
theorem ii_mo_noTriples_76 : sm_D prog_9_method_79_code 76 2 78 (.bipush (-9)) := ⟨by decide +kernel, rfl⟩
set_option maxRecDepth 100000 in
theorem ii_mo_noTriples_78 : sm_D prog_9_method_79_code 78 3 81 (.if_icmp .ne 38) := ⟨by decide +kernel, rfl⟩
set_option maxRecDepth 100000 in
theorem ii_mo_noTriples_81 : sm_D prog_9_method_79_code 81 1 82 (.aload_n 0) := ⟨by decide +kernel, rfl⟩
set_option maxRecDepth 100000 in
theorem ii_mo_noTriples_82 : sm_D prog_9_method_79_code 82 3 85 (.getfield 25) := ⟨by decide +kernel, rfl⟩
set_option maxRecDepth 100000 in
theorem ii_mo_noTriples_85 : sm_D prog_9_method_79_code 85 1 86 (.iload_n 3) := ⟨by decide +kernel, rfl⟩
set_option maxRecDepth 100000 in
theorem ii_mo_noTriples_86 : sm_D prog_9_method_79_code 86 1 87 (.iconst 1) := ⟨by decide +kernel, rfl⟩
set_option maxRecDepth 100000 in
theorem ii_mo_noTriples_87 : sm_D prog_9_method_79_code 87 1 88 (.iadd) := ⟨by decide +kernel, rfl⟩
set_option maxRecDepth 100000 in
theorem ii_mo_noTriples_88 : sm_D prog_9_method_79_code 88 1 89 (.iaload) := ⟨by decide +kernel, rfl⟩
set_option maxRecDepth 100000 in
theorem ii_mo_noTriples_89 : sm_D prog_9_method_79_code 89 3 92 (.invokestatic 184) := ⟨by decide +kernel, rfl⟩
set_option maxRecDepth 100000 in
theorem ii_mo_noTriples_92 : sm_D prog_9_method_79_code 92 3 95 (.ifCond .eq 24) := ⟨by decide +kernel, rfl⟩
set_option maxRecDepth 100000 in
theorem ii_mo_noTriples_95 : sm_D prog_9_method_79_code 95 1 96 (.aload_n 0) := ⟨by decide +kernel, rfl⟩
set_option maxRecDepth 100000 in
theorem ii_mo_noTriples_96 : sm_D prog_9_method_79_code 96 3 99 (.getfield 25) := ⟨by decide +kernel, rfl⟩
set_option maxRecDepth 100000 in
theorem ii_mo_noTriples_99 : sm_D prog_9_method_79_code 99 1 100 (.iload_n 3) := ⟨by decide +kernel, rfl⟩
set_option maxRecDepth 100000 in
theorem ii_mo_noTriples_100 : sm_D prog_9_method_79_code 100 1 101 (.iconst 2) := ⟨by decide +kernel, rfl⟩
set_option maxRecDepth 100000 in
theorem ii_mo_noTriples_101 : sm_D prog_9_method_79_code 101 1 102 (.iadd) := ⟨by decide +kernel, rfl⟩
set_option maxRecDepth 100000 in
theorem ii_mo_noTriples_102 : sm_D prog_9_method_79_code 102 1 103 (.iaload) := ⟨by decide +kernel, rfl⟩
set_option maxRecDepth 100000 in
theorem ii_mo_noTriples_103 : sm_D prog_9_method_79_code 103 1 104 (.i2l) := ⟨by decide +kernel, rfl⟩
set_option maxRecDepth 100000 in
theorem ii_mo_noTriples_104 : sm_D prog_9_method_79_code 104 1 105 (.lconst 0) := ⟨by decide +kernel, rfl⟩
set_option maxRecDepth 100000 in
theorem ii_mo_noTriples_105 : sm_D prog_9_method_79_code 105 1 106 (.lconst 1) := ⟨by decide +kernel, rfl⟩
set_option maxRecDepth 100000 in
theorem ii_mo_noTriples_106 : sm_D prog_9_method_79_code 106 3 109 (.invokestatic 71) := ⟨by decide +kernel, rfl⟩
set_option maxRecDepth 100000 in
theorem ii_mo_noTriples_109 : sm_D prog_9_method_79_code 109 3 112 (.ifCond .eq 7) := ⟨by decide +kernel, rfl⟩
set_option maxRecDepth 100000 in
theorem ii_mo_noTriples_112 : sm_D prog_9_method_79_code 112 1 113 (.iconst 1) := ⟨by decide +kernel, rfl⟩
set_option maxRecDepth 100000 in
theorem ii_mo_noTriples_113 : sm_D prog_9_method_79_code 113 3 116 (.goto 4) := ⟨by decide +kernel, rfl⟩
set_option maxRecDepth 100000 in
theorem ii_mo_noTriples_116 : sm_D prog_9_method_79_code 116 1 117 (.iconst 0) := ⟨by decide +kernel, rfl⟩
set_option maxRecDepth 100000 in
theorem ii_mo_noTriples_117 : sm_D prog_9_method_79_code 117 1 118 (.istore_n 2) := ⟨by decide +kernel, rfl⟩
set_option maxRecDepth 100000 in
theorem ii_mo_noTriples_118 : sm_D prog_9_method_79_code 118 3 121 (.iinc 3 3) := ⟨by decide +kernel, rfl⟩
set_option maxRecDepth 100000 in
theorem ii_mo_noTriples_121 : sm_D prog_9_method_79_code 121 3 124 (.goto (-82)) := ⟨by decide +kernel, rfl⟩
set_option maxRecDepth 100000 in
theorem ii_mo_noTriples_124 : sm_D prog_9_method_79_code 124 1 125 (.iload_n 2) := ⟨by decide +kernel, rfl⟩
set_option maxRecDepth 100000 in
theorem ii_mo_noTriples_125 : sm_D prog_9_method_79_code 125 3 128 (.ifCond .eq 7) := ⟨by decide +kernel, rfl⟩
set_option maxRecDepth 100000 in
theorem ii_mo_noTriples_128 : sm_D prog_9_method_79_code 128 1 129 (.iconst 0) := ⟨by decide +kernel, rfl⟩
set_option maxRecDepth 100000 in
theorem ii_mo_noTriples_129 : sm_D prog_9_method_79_code 129 3 132 (.goto 8) := ⟨by decide +kernel, rfl⟩
set_option maxRecDepth 100000 in
theorem ii_mo_noTriples_132 : sm_D prog_9_method_79_code 132 1 133 (.aload_n 0) := ⟨by decide +kernel, rfl⟩
set_option maxRecDepth 100000 in
theorem ii_mo_noTriples_133 : sm_D prog_9_method_79_code 133 1 134 (.iconst 3) := ⟨by decide +kernel, rfl⟩
set_option maxRecDepth 100000 in
theorem ii_mo_noTriples_134 : sm_D prog_9_method_79_code 134 3 137 (.invokevirtual 81) := ⟨by decide +kernel, rfl⟩
set_option maxRecDepth 100000 in
theorem ii_mo_noTriples_137 : sm_D prog_9_method_79_code 137 1 138 (.ireturn) := ⟨by decide +kernel, rfl⟩
noncomputable def ff_mo_noTriples_116 (self39 : Int32 → Int32 → Int32 → sm_Mem → sm_R) (a1 : Int32) (a3 : Int32) (w : sm_Mem) : sm_R := self39 (a1) ((0 : Int32)) ((a3 + (3 : Int32))) w
set_option maxHeartbeats 4000000 in
set_option maxRecDepth 100000 in
theorem ss_mo_noTriples_116 {E : Nat × (Nat → Int32)} (self39 : Int32 → Int32 → Int32 → sm_Mem → sm_R) (hself39 : ∀ (a1 : Int32) (a2 : Int32) (a3 : Int32) (w : sm_Mem), sm_Sim E (mi_mo_noTriples) 39 [some (.ref 62), some (.int a1), some (.int a2), some (.int a3)] [] w (self39 a1 a2 a3 w)) (a1 : Int32) (a3 : Int32) (w : sm_Mem) : sm_Sim E (mi_mo_noTriples) 116 [some (.ref 62), some (.int a1), none, some (.int a3)] [] w (ff_mo_noTriples_116 self39 a1 a3 w) := by
  unfold ff_mo_noTriples_116
  refine sm_iconst (0 : Int32) ii_mo_noTriples_116 (by decide) ?_
  refine sm_istore_n [some (.ref 62), some (.int a1), some (.int (0 : Int32)), some (.int a3)] ii_mo_noTriples_117 rfl rfl ?_
  refine sm_iinc (a3 + (3 : Int32)) [some (.ref 62), some (.int a1), some (.int (0 : Int32)), some (.int (a3 + (3 : Int32)))] ii_mo_noTriples_118 rfl rfl rfl rfl ?_
  refine sm_goto 39 ii_mo_noTriples_121 (by decide) ?_
  exact hself39 (a1) ((0 : Int32)) ((a3 + (3 : Int32))) w
noncomputable def ff_mo_noTriples_81 (self39 : Int32 → Int32 → Int32 → sm_Mem → sm_R) (a1 : Int32) (a3 : Int32) (w : sm_Mem) : sm_R := (Option.bind (sm_rd w 68 240 (a3 + (1 : Int32))) fun x1 => (sm_cI (ff_mo_isWord (x1) w) fun x2 w3 => (if x2 = (0 : Int32) then ff_mo_noTriples_116 self39 (a1) (a3) w3 else (Option.bind (sm_rd w3 68 240 (a3 + (2 : Int32))) fun x4 => (sm_cI (ff_mo_in ((Int32.toInt64 x4)) ((0 : Int64)) ((1 : Int64)) w3) fun x5 w6 => (if x5 = (0 : Int32) then ff_mo_noTriples_116 self39 (a1) (a3) w6 else self39 (a1) ((1 : Int32)) ((a3 + (3 : Int32))) w6))))))
set_option maxHeartbeats 4000000 in
set_option maxRecDepth 100000 in
theorem ss_mo_noTriples_81 {E : Nat × (Nat → Int32)} (self39 : Int32 → Int32 → Int32 → sm_Mem → sm_R) (hself39 : ∀ (a1 : Int32) (a2 : Int32) (a3 : Int32) (w : sm_Mem), sm_Sim E (mi_mo_noTriples) 39 [some (.ref 62), some (.int a1), some (.int a2), some (.int a3)] [] w (self39 a1 a2 a3 w)) (a1 : Int32) (a3 : Int32) (w : sm_Mem) : sm_Sim E (mi_mo_noTriples) 81 [some (.ref 62), some (.int a1), none, some (.int a3)] [] w (ff_mo_noTriples_81 self39 a1 a3 w) := by
  unfold ff_mo_noTriples_81
  refine sm_aload_n ii_mo_noTriples_81 rfl ?_
  refine sm_getR 68 ii_mo_noTriples_82 fl_mo_25 (k := 62) rfl ?_
  refine sm_iload_n ii_mo_noTriples_85 rfl ?_
  refine sm_iconst (1 : Int32) ii_mo_noTriples_86 (by decide) ?_
  refine sm_iadd ii_mo_noTriples_87 ?_
  refine sm_iald ii_mo_noTriples_88 (k := 68) rfl (fun x1 => ?_)
  refine sm_csI [.int x1] [] rfl ii_mo_noTriples_89 ml_mo_184 (mf_mo_isWord) (mv_mo_isWord) (Nat.le_of_ble_eq_true rfl) rfl rfl rfl (mc_mo_isWord (x1) w) (fun x2 w3 => ?_)
  refine sm_if_eq 116 ii_mo_noTriples_92 (by decide) ?_ ?_
  · exact ss_mo_noTriples_116 self39 hself39 (a1) (a3) w3
  · refine sm_aload_n ii_mo_noTriples_95 rfl ?_
    refine sm_getR 68 ii_mo_noTriples_96 fl_mo_25 (k := 62) rfl ?_
    refine sm_iload_n ii_mo_noTriples_99 rfl ?_
    refine sm_iconst (2 : Int32) ii_mo_noTriples_100 (by decide) ?_
    refine sm_iadd ii_mo_noTriples_101 ?_
    refine sm_iald ii_mo_noTriples_102 (k := 68) rfl (fun x4 => ?_)
    refine sm_i2l ii_mo_noTriples_103 ?_
    refine sm_lconst (0 : Int64) ii_mo_noTriples_104 (by decide) ?_
    refine sm_lconst (1 : Int64) ii_mo_noTriples_105 (by decide) ?_
    refine sm_csI [.long (Int32.toInt64 x4), .long (0 : Int64), .long (1 : Int64)] [] rfl ii_mo_noTriples_106 ml_mo_71 (mf_mo_in) (mv_mo_in) (Nat.le_of_ble_eq_true rfl) rfl rfl rfl (mc_mo_in ((Int32.toInt64 x4)) ((0 : Int64)) ((1 : Int64)) w3) (fun x5 w6 => ?_)
    refine sm_if_eq 116 ii_mo_noTriples_109 (by decide) ?_ ?_
    · exact ss_mo_noTriples_116 self39 hself39 (a1) (a3) w6
    · refine sm_iconst (1 : Int32) ii_mo_noTriples_112 (by decide) ?_
      refine sm_goto 117 ii_mo_noTriples_113 (by decide) ?_
      refine sm_istore_n [some (.ref 62), some (.int a1), some (.int (1 : Int32)), some (.int a3)] ii_mo_noTriples_117 rfl rfl ?_
      refine sm_iinc (a3 + (3 : Int32)) [some (.ref 62), some (.int a1), some (.int (1 : Int32)), some (.int (a3 + (3 : Int32)))] ii_mo_noTriples_118 rfl rfl rfl rfl ?_
      refine sm_goto 39 ii_mo_noTriples_121 (by decide) ?_
      exact hself39 (a1) ((1 : Int32)) ((a3 + (3 : Int32))) w6
noncomputable def ff_mo_noTriples_39_b  (self39 : Int32 → Int32 → Int32 → sm_Mem → sm_R) (a1 : Int32) (a2 : Int32) (a3 : Int32) (w : sm_Mem) : sm_R := (Option.bind (sm_rd w 67 6 a1) fun x7 => (if (((40 : Int32) * a1) + x7) ≤ a3 then (if a2 = (0 : Int32) then (sm_cI (ff_mo_find ((3 : Int32)) w) fun x8 w9 => (some (.int x8, w9))) else (some (.int (0 : Int32), w))) else (if a2 = (0 : Int32) then ff_mo_noTriples_116 self39 (a1) (a3) w else (Option.bind (sm_rd w 68 240 a3) fun x10 => (sm_cI (ff_mo_isWord (x10) w) fun x11 w12 => (if x11 = (0 : Int32) then (Option.bind (sm_rd w12 68 240 a3) fun x13 => (if x13 = (-9 : Int32) then ff_mo_noTriples_81 self39 (a1) (a3) w12 else ff_mo_noTriples_116 self39 (a1) (a3) w12)) else ff_mo_noTriples_81 self39 (a1) (a3) w12))))))
noncomputable def ff_mo_noTriples_39_f  : Nat → Int32 → Int32 → Int32 → sm_Mem → sm_R
  | 0, _, _, _, _ => none
  | n + 1, a1, a2, a3, w => ff_mo_noTriples_39_b  (ff_mo_noTriples_39_f  n) a1 a2 a3 w
noncomputable def ff_mo_noTriples_39  (a1 : Int32) (a2 : Int32) (a3 : Int32) (w : sm_Mem) : sm_R := ff_mo_noTriples_39_f  sm_N a1 a2 a3 w
set_option maxHeartbeats 4000000 in
set_option maxRecDepth 100000 in
theorem ss_mo_noTriples_39_b {E : Nat × (Nat → Int32)}  (self39 : Int32 → Int32 → Int32 → sm_Mem → sm_R) (hself39 : ∀ (a1 : Int32) (a2 : Int32) (a3 : Int32) (w : sm_Mem), sm_Sim E (mi_mo_noTriples) 39 [some (.ref 62), some (.int a1), some (.int a2), some (.int a3)] [] w (self39 a1 a2 a3 w)) (a1 : Int32) (a2 : Int32) (a3 : Int32) (w : sm_Mem) : sm_Sim E (mi_mo_noTriples) 39 [some (.ref 62), some (.int a1), some (.int a2), some (.int a3)] [] w (ff_mo_noTriples_39_b  self39 a1 a2 a3 w) := by
  unfold ff_mo_noTriples_39_b
  refine sm_iload_n ii_mo_noTriples_39 rfl ?_
  refine sm_bipush (40 : Int32) ii_mo_noTriples_40 (by decide) ?_
  refine sm_iload_n ii_mo_noTriples_42 rfl ?_
  refine sm_imul ii_mo_noTriples_43 ?_
  refine sm_aload_n ii_mo_noTriples_44 rfl ?_
  refine sm_getR 67 ii_mo_noTriples_45 fl_mo_22 (k := 62) rfl ?_
  refine sm_iload_n ii_mo_noTriples_48 rfl ?_
  refine sm_iald ii_mo_noTriples_49 (k := 67) rfl (fun x7 => ?_)
  refine sm_iadd ii_mo_noTriples_50 ?_
  refine sm_icmp_ge 124 ii_mo_noTriples_51 (by decide) ?_ ?_
  · refine sm_iload_n ii_mo_noTriples_124 rfl ?_
    refine sm_if_eq 132 ii_mo_noTriples_125 (by decide) ?_ ?_
    · refine sm_aload_n ii_mo_noTriples_132 rfl ?_
      refine sm_iconst (3 : Int32) ii_mo_noTriples_133 (by decide) ?_
      refine sm_cvI [.int (3 : Int32)] [] rfl ii_mo_noTriples_134 ml_mo_81 (mf_mo_find) (mv_mo_find) (Nat.le_of_ble_eq_true rfl) rfl 7 rfl rfl rfl rfl (mc_mo_find ((3 : Int32)) w) (fun x8 w9 => ?_)
      exact sm_iret ii_mo_noTriples_137 rfl
    · refine sm_iconst (0 : Int32) ii_mo_noTriples_128 (by decide) ?_
      refine sm_goto 137 ii_mo_noTriples_129 (by decide) ?_
      exact sm_iret ii_mo_noTriples_137 rfl
  · refine sm_iload_n ii_mo_noTriples_54 rfl ?_
    refine sm_if_eq 116 ii_mo_noTriples_55 (by decide) ?_ ?_
    · refine sm_msk [true, true, false, true] [some (.ref 62), some (.int a1), none, some (.int a3)] rfl ?_
      exact ss_mo_noTriples_116 self39 hself39 (a1) (a3) w
    · refine sm_aload_n ii_mo_noTriples_58 rfl ?_
      refine sm_getR 68 ii_mo_noTriples_59 fl_mo_25 (k := 62) rfl ?_
      refine sm_iload_n ii_mo_noTriples_62 rfl ?_
      refine sm_iald ii_mo_noTriples_63 (k := 68) rfl (fun x10 => ?_)
      refine sm_csI [.int x10] [] rfl ii_mo_noTriples_64 ml_mo_184 (mf_mo_isWord) (mv_mo_isWord) (Nat.le_of_ble_eq_true rfl) rfl rfl rfl (mc_mo_isWord (x10) w) (fun x11 w12 => ?_)
      refine sm_if_ne 81 ii_mo_noTriples_67 (by decide) ?_ ?_
      · refine sm_aload_n ii_mo_noTriples_70 rfl ?_
        refine sm_getR 68 ii_mo_noTriples_71 fl_mo_25 (k := 62) rfl ?_
        refine sm_iload_n ii_mo_noTriples_74 rfl ?_
        refine sm_iald ii_mo_noTriples_75 (k := 68) rfl (fun x13 => ?_)
        refine sm_bipush (-9 : Int32) ii_mo_noTriples_76 (by decide) ?_
        refine sm_icmp_ne 116 ii_mo_noTriples_78 (by decide) ?_ ?_
        · refine sm_msk [true, true, false, true] [some (.ref 62), some (.int a1), none, some (.int a3)] rfl ?_
          exact ss_mo_noTriples_81 self39 hself39 (a1) (a3) w12
        · refine sm_msk [true, true, false, true] [some (.ref 62), some (.int a1), none, some (.int a3)] rfl ?_
          exact ss_mo_noTriples_116 self39 hself39 (a1) (a3) w12
      · refine sm_msk [true, true, false, true] [some (.ref 62), some (.int a1), none, some (.int a3)] rfl ?_
        exact ss_mo_noTriples_81 self39 hself39 (a1) (a3) w12
set_option maxHeartbeats 4000000 in
set_option maxRecDepth 100000 in
theorem ss_mo_noTriples_39_f {E : Nat × (Nat → Int32)}  : ∀ (n : Nat) (a1 : Int32) (a2 : Int32) (a3 : Int32) (w : sm_Mem), sm_Sim E (mi_mo_noTriples) 39 [some (.ref 62), some (.int a1), some (.int a2), some (.int a3)] [] w (ff_mo_noTriples_39_f  n a1 a2 a3 w)
  | 0, _, _, _, _ => fun _ _ h => by cases h
  | n + 1, a1, a2, a3, w => ss_mo_noTriples_39_b  _ (ss_mo_noTriples_39_f  n) a1 a2 a3 w
set_option maxHeartbeats 4000000 in
set_option maxRecDepth 100000 in
theorem ss_mo_noTriples_39 {E : Nat × (Nat → Int32)}  (a1 : Int32) (a2 : Int32) (a3 : Int32) (w : sm_Mem) : sm_Sim E (mi_mo_noTriples) 39 [some (.ref 62), some (.int a1), some (.int a2), some (.int a3)] [] w (ff_mo_noTriples_39  a1 a2 a3 w) := ss_mo_noTriples_39_f  sm_N a1 a2 a3 w
noncomputable def ff_mo_noTriples  (a1 : Int32) (w : sm_Mem) : sm_R := (Option.bind (sm_rd w 67 6 a1) fun x14 => (if (0 : Int32) ≤ x14 then (Option.bind (sm_rd w 67 6 a1) fun x15 => (if (3 : Int32) = (0 : Int32) then none else (if (x15 - x15 / (3 : Int32) * (3 : Int32)) = (0 : Int32) then ff_mo_noTriples_39 (a1) ((1 : Int32)) (((40 : Int32) * a1)) w else (sm_cI (ff_mo_find ((5 : Int32)) w) fun x17 w18 => (some (.int x17, w18)))))) else (sm_cI (ff_mo_find ((1 : Int32)) w) fun x19 w20 => (some (.int x19, w20)))))
set_option maxHeartbeats 4000000 in
set_option maxRecDepth 100000 in
theorem ss_mo_noTriples_0 {E : Nat × (Nat → Int32)}  (a1 : Int32) (w : sm_Mem) : sm_Sim E (mi_mo_noTriples) 0 [some (.ref 62), some (.int a1), none, none] [] w (ff_mo_noTriples  a1 w) := by
  unfold ff_mo_noTriples
  refine sm_aload_n ii_mo_noTriples_0 rfl ?_
  refine sm_getR 67 ii_mo_noTriples_1 fl_mo_22 (k := 62) rfl ?_
  refine sm_iload_n ii_mo_noTriples_4 rfl ?_
  refine sm_iald ii_mo_noTriples_5 (k := 67) rfl (fun x14 => ?_)
  refine sm_if_ge 15 ii_mo_noTriples_6 (by decide) ?_ ?_
  · refine sm_aload_n ii_mo_noTriples_15 rfl ?_
    refine sm_getR 67 ii_mo_noTriples_16 fl_mo_22 (k := 62) rfl ?_
    refine sm_iload_n ii_mo_noTriples_19 rfl ?_
    refine sm_iald ii_mo_noTriples_20 (k := 67) rfl (fun x15 => ?_)
    refine sm_iconst (3 : Int32) ii_mo_noTriples_21 (by decide) ?_
    refine sm_irem ii_mo_noTriples_22 ?_
    refine sm_if_eq 32 ii_mo_noTriples_23 (by decide) ?_ ?_
    · refine sm_iconst (1 : Int32) ii_mo_noTriples_32 (by decide) ?_
      refine sm_istore_n [some (.ref 62), some (.int a1), some (.int (1 : Int32)), none] ii_mo_noTriples_33 rfl rfl ?_
      refine sm_bipush (40 : Int32) ii_mo_noTriples_34 (by decide) ?_
      refine sm_iload_n ii_mo_noTriples_36 rfl ?_
      refine sm_imul ii_mo_noTriples_37 ?_
      refine sm_istore_n [some (.ref 62), some (.int a1), some (.int (1 : Int32)), some (.int ((40 : Int32) * a1))] ii_mo_noTriples_38 rfl rfl ?_
      exact ss_mo_noTriples_39 (a1) ((1 : Int32)) (((40 : Int32) * a1)) w
    · refine sm_aload_n ii_mo_noTriples_26 rfl ?_
      refine sm_iconst (5 : Int32) ii_mo_noTriples_27 (by decide) ?_
      refine sm_cvI [.int (5 : Int32)] [] rfl ii_mo_noTriples_28 ml_mo_81 (mf_mo_find) (mv_mo_find) (Nat.le_of_ble_eq_true rfl) rfl 7 rfl rfl rfl rfl (mc_mo_find ((5 : Int32)) w) (fun x17 w18 => ?_)
      exact sm_iret ii_mo_noTriples_31 rfl
  · refine sm_aload_n ii_mo_noTriples_9 rfl ?_
    refine sm_iconst (1 : Int32) ii_mo_noTriples_10 (by decide) ?_
    refine sm_cvI [.int (1 : Int32)] [] rfl ii_mo_noTriples_11 ml_mo_81 (mf_mo_find) (mv_mo_find) (Nat.le_of_ble_eq_true rfl) rfl 7 rfl rfl rfl rfl (mc_mo_find ((1 : Int32)) w) (fun x19 w20 => ?_)
    exact sm_iret ii_mo_noTriples_14 rfl
set_option maxHeartbeats 4000000 in
set_option maxRecDepth 100000 in
theorem mc_mo_noTriples (a1 : Int32) (w : sm_Mem) : sm_MC mi_mo_noTriples [.ref 62, .int a1] w (ff_mo_noTriples a1 w) := sm_MC_of (0, fun _ => 0) (by decide +kernel) (by decide) rfl (Nat.le_of_ble_eq_true rfl) (ss_mo_noTriples_0 a1 w)
abbrev mi_mo_kindsBy : sm_MI := (⟨"HerOrdersModel", "kindsBy", "(II)I"⟩, prog_9_method_80_code, 7, (some .int), 3)
set_option maxRecDepth 100000 in
theorem mf_mo_kindsBy : sm_MF mi_mo_kindsBy 2 := ⟨List.mem_of_getElem? (i := 1342) (by decide +kernel), List.mem_of_getElem? (i := 132) (by decide +kernel), ⟨by decide, by decide⟩, by decide +kernel⟩
set_option maxRecDepth 100000 in
theorem mv_mo_kindsBy : sm_MFV mi_mo_kindsBy := ⟨List.mem_of_getElem? (i := 1341) (by decide +kernel), List.mem_of_getElem? (i := 111) (by decide +kernel)⟩
set_option maxRecDepth 100000 in
theorem ii_mo_kindsBy_0 : sm_D prog_9_method_80_code 0 1 1 (.iconst 0) := ⟨by decide +kernel, rfl⟩
set_option maxRecDepth 100000 in
theorem ii_mo_kindsBy_1 : sm_D prog_9_method_80_code 1 1 2 (.istore_n 3) := ⟨by decide +kernel, rfl⟩
set_option maxRecDepth 100000 in
theorem ii_mo_kindsBy_2 : sm_D prog_9_method_80_code 2 1 3 (.iconst 0) := ⟨by decide +kernel, rfl⟩
set_option maxRecDepth 100000 in
theorem ii_mo_kindsBy_3 : sm_D prog_9_method_80_code 3 2 5 (.istore 4) := ⟨by decide +kernel, rfl⟩
set_option maxRecDepth 100000 in
theorem ii_mo_kindsBy_5 : sm_D prog_9_method_80_code 5 2 7 (.iload 4) := ⟨by decide +kernel, rfl⟩
set_option maxRecDepth 100000 in
theorem ii_mo_kindsBy_7 : sm_D prog_9_method_80_code 7 2 9 (.bipush 6) := ⟨by decide +kernel, rfl⟩
set_option maxRecDepth 100000 in
theorem ii_mo_kindsBy_9 : sm_D prog_9_method_80_code 9 3 12 (.if_icmp .ge 122) := ⟨by decide +kernel, rfl⟩
set_option maxRecDepth 100000 in
theorem ii_mo_kindsBy_12 : sm_D prog_9_method_80_code 12 1 13 (.iconst 1) := ⟨by decide +kernel, rfl⟩
set_option maxRecDepth 100000 in
theorem ii_mo_kindsBy_13 : sm_D prog_9_method_80_code 13 2 15 (.istore 5) := ⟨by decide +kernel, rfl⟩
set_option maxRecDepth 100000 in
theorem ii_mo_kindsBy_15 : sm_D prog_9_method_80_code 15 2 17 (.bipush 40) := ⟨by decide +kernel, rfl⟩
set_option maxRecDepth 100000 in
theorem ii_mo_kindsBy_17 : sm_D prog_9_method_80_code 17 1 18 (.iload_n 2) := ⟨by decide +kernel, rfl⟩
set_option maxRecDepth 100000 in
theorem ii_mo_kindsBy_18 : sm_D prog_9_method_80_code 18 1 19 (.imul) := ⟨by decide +kernel, rfl⟩
set_option maxRecDepth 100000 in
theorem ii_mo_kindsBy_19 : sm_D prog_9_method_80_code 19 2 21 (.istore 6) := ⟨by decide +kernel, rfl⟩
set_option maxRecDepth 100000 in
theorem ii_mo_kindsBy_21 : sm_D prog_9_method_80_code 21 2 23 (.iload 6) := ⟨by decide +kernel, rfl⟩
set_option maxRecDepth 100000 in
theorem ii_mo_kindsBy_23 : sm_D prog_9_method_80_code 23 2 25 (.bipush 40) := ⟨by decide +kernel, rfl⟩
set_option maxRecDepth 100000 in
theorem ii_mo_kindsBy_25 : sm_D prog_9_method_80_code 25 1 26 (.iload_n 2) := ⟨by decide +kernel, rfl⟩
set_option maxRecDepth 100000 in
theorem ii_mo_kindsBy_26 : sm_D prog_9_method_80_code 26 1 27 (.imul) := ⟨by decide +kernel, rfl⟩
set_option maxRecDepth 100000 in
theorem ii_mo_kindsBy_27 : sm_D prog_9_method_80_code 27 1 28 (.aload_n 0) := ⟨by decide +kernel, rfl⟩
set_option maxRecDepth 100000 in
theorem ii_mo_kindsBy_28 : sm_D prog_9_method_80_code 28 3 31 (.getfield 22) := ⟨by decide +kernel, rfl⟩
set_option maxRecDepth 100000 in
theorem ii_mo_kindsBy_31 : sm_D prog_9_method_80_code 31 1 32 (.iload_n 2) := ⟨by decide +kernel, rfl⟩
set_option maxRecDepth 100000 in
theorem ii_mo_kindsBy_32 : sm_D prog_9_method_80_code 32 1 33 (.iaload) := ⟨by decide +kernel, rfl⟩
set_option maxRecDepth 100000 in
theorem ii_mo_kindsBy_33 : sm_D prog_9_method_80_code 33 1 34 (.iadd) := ⟨by decide +kernel, rfl⟩
set_option maxRecDepth 100000 in
theorem ii_mo_kindsBy_34 : sm_D prog_9_method_80_code 34 3 37 (.if_icmp .ge 75) := ⟨by decide +kernel, rfl⟩
set_option maxRecDepth 100000 in
theorem ii_mo_kindsBy_37 : sm_D prog_9_method_80_code 37 2 39 (.iload 5) := ⟨by decide +kernel, rfl⟩
set_option maxRecDepth 100000 in
theorem ii_mo_kindsBy_39 : sm_D prog_9_method_80_code 39 3 42 (.ifCond .eq 61) := ⟨by decide +kernel, rfl⟩
set_option maxRecDepth 100000 in
theorem ii_mo_kindsBy_42 : sm_D prog_9_method_80_code 42 2 44 (.iload 4) := ⟨by decide +kernel, rfl⟩
set_option maxRecDepth 100000 in
theorem ii_mo_kindsBy_44 : sm_D prog_9_method_80_code 44 1 45 (.aload_n 0) := ⟨by decide +kernel, rfl⟩
set_option maxRecDepth 100000 in
theorem ii_mo_kindsBy_45 : sm_D prog_9_method_80_code 45 3 48 (.getfield 16) := ⟨by decide +kernel, rfl⟩
set_option maxRecDepth 100000 in
theorem ii_mo_kindsBy_48 : sm_D prog_9_method_80_code 48 1 49 (.iload_n 1) := ⟨by decide +kernel, rfl⟩
set_option maxRecDepth 100000 in
theorem ii_mo_kindsBy_49 : sm_D prog_9_method_80_code 49 1 50 (.iaload) := ⟨by decide +kernel, rfl⟩
set_option maxRecDepth 100000 in
theorem ii_mo_kindsBy_50 : sm_D prog_9_method_80_code 50 1 51 (.aload_n 0) := ⟨by decide +kernel, rfl⟩
set_option maxRecDepth 100000 in
theorem ii_mo_kindsBy_51 : sm_D prog_9_method_80_code 51 3 54 (.getfield 25) := ⟨by decide +kernel, rfl⟩
set_option maxRecDepth 100000 in
theorem ii_mo_kindsBy_54 : sm_D prog_9_method_80_code 54 2 56 (.iload 6) := ⟨by decide +kernel, rfl⟩
set_option maxRecDepth 100000 in
theorem ii_mo_kindsBy_56 : sm_D prog_9_method_80_code 56 1 57 (.iaload) := ⟨by decide +kernel, rfl⟩
set_option maxRecDepth 100000 in
theorem ii_mo_kindsBy_57 : sm_D prog_9_method_80_code 57 1 58 (.aload_n 0) := ⟨by decide +kernel, rfl⟩
set_option maxRecDepth 100000 in
theorem ii_mo_kindsBy_58 : sm_D prog_9_method_80_code 58 3 61 (.getfield 25) := ⟨by decide +kernel, rfl⟩
set_option maxRecDepth 100000 in
theorem ii_mo_kindsBy_61 : sm_D prog_9_method_80_code 61 2 63 (.iload 6) := ⟨by decide +kernel, rfl⟩
set_option maxRecDepth 100000 in
theorem ii_mo_kindsBy_63 : sm_D prog_9_method_80_code 63 1 64 (.iconst 1) := ⟨by decide +kernel, rfl⟩
set_option maxRecDepth 100000 in
theorem ii_mo_kindsBy_64 : sm_D prog_9_method_80_code 64 1 65 (.iadd) := ⟨by decide +kernel, rfl⟩
set_option maxRecDepth 100000 in
theorem ii_mo_kindsBy_65 : sm_D prog_9_method_80_code 65 1 66 (.iaload) := ⟨by decide +kernel, rfl⟩
set_option maxRecDepth 100000 in
theorem ii_mo_kindsBy_66 : sm_D prog_9_method_80_code 66 1 67 (.aload_n 0) := ⟨by decide +kernel, rfl⟩
set_option maxRecDepth 100000 in
theorem ii_mo_kindsBy_67 : sm_D prog_9_method_80_code 67 3 70 (.getfield 7) := ⟨by decide +kernel, rfl⟩
set_option maxRecDepth 100000 in
theorem ii_mo_kindsBy_70 : sm_D prog_9_method_80_code 70 1 71 (.iconst 1) := ⟨by decide +kernel, rfl⟩
set_option maxRecDepth 100000 in
theorem ii_mo_kindsBy_71 : sm_D prog_9_method_80_code 71 1 72 (.iaload) := ⟨by decide +kernel, rfl⟩
set_option maxRecDepth 100000 in
theorem ii_mo_kindsBy_72 : sm_D prog_9_method_80_code 72 3 75 (.invokestatic 153) := ⟨by decide +kernel, rfl⟩
set_option maxRecDepth 100000 in
theorem ii_mo_kindsBy_75 : sm_D prog_9_method_80_code 75 1 76 (.aload_n 0) := ⟨by decide +kernel, rfl⟩
set_option maxRecDepth 100000 in
theorem ii_mo_kindsBy_76 : sm_D prog_9_method_80_code 76 3 79 (.getfield 25) := ⟨by decide +kernel, rfl⟩
set_option maxRecDepth 100000 in
theorem ii_mo_kindsBy_79 : sm_D prog_9_method_80_code 79 2 81 (.iload 6) := ⟨by decide +kernel, rfl⟩
set_option maxRecDepth 100000 in
theorem ii_mo_kindsBy_81 : sm_D prog_9_method_80_code 81 1 82 (.iconst 2) := ⟨by decide +kernel, rfl⟩
set_option maxRecDepth 100000 in
theorem ii_mo_kindsBy_82 : sm_D prog_9_method_80_code 82 1 83 (.iadd) := ⟨by decide +kernel, rfl⟩
set_option maxRecDepth 100000 in
theorem ii_mo_kindsBy_83 : sm_D prog_9_method_80_code 83 1 84 (.iaload) := ⟨by decide +kernel, rfl⟩
set_option maxRecDepth 100000 in
theorem ii_mo_kindsBy_84 : sm_D prog_9_method_80_code 84 1 85 (.iconst 1) := ⟨by decide +kernel, rfl⟩
set_option maxRecDepth 100000 in
theorem ii_mo_kindsBy_85 : sm_D prog_9_method_80_code 85 3 88 (.if_icmp .ne 7) := ⟨by decide +kernel, rfl⟩
set_option maxRecDepth 100000 in
theorem ii_mo_kindsBy_88 : sm_D prog_9_method_80_code 88 1 89 (.iconst 1) := ⟨by decide +kernel, rfl⟩
set_option maxRecDepth 100000 in
theorem ii_mo_kindsBy_89 : sm_D prog_9_method_80_code 89 3 92 (.goto 4) := ⟨by decide +kernel, rfl⟩
set_option maxRecDepth 100000 in
theorem ii_mo_kindsBy_92 : sm_D prog_9_method_80_code 92 1 93 (.iconst 0) := ⟨by decide +kernel, rfl⟩
set_option maxRecDepth 100000 in
theorem ii_mo_kindsBy_93 : sm_D prog_9_method_80_code 93 3 96 (.if_icmp .ne 7) := ⟨by decide +kernel, rfl⟩
set_option maxRecDepth 100000 in
theorem ii_mo_kindsBy_96 : sm_D prog_9_method_80_code 96 1 97 (.iconst 1) := ⟨by decide +kernel, rfl⟩
set_option maxRecDepth 100000 in
theorem ii_mo_kindsBy_97 : sm_D prog_9_method_80_code 97 3 100 (.goto 4) := ⟨by decide +kernel, rfl⟩
set_option maxRecDepth 100000 in
theorem ii_mo_kindsBy_100 : sm_D prog_9_method_80_code 100 1 101 (.iconst 0) := ⟨by decide +kernel, rfl⟩
set_option maxRecDepth 100000 in
theorem ii_mo_kindsBy_101 : sm_D prog_9_method_80_code 101 2 103 (.istore 5) := ⟨by decide +kernel, rfl⟩
set_option maxRecDepth 100000 in
theorem ii_mo_kindsBy_103 : sm_D prog_9_method_80_code 103 3 106 (.iinc 6 3) := ⟨by decide +kernel, rfl⟩
set_option maxRecDepth 100000 in
theorem ii_mo_kindsBy_106 : sm_D prog_9_method_80_code 106 3 109 (.goto (-85)) := ⟨by decide +kernel, rfl⟩
set_option maxRecDepth 100000 in
theorem ii_mo_kindsBy_109 : sm_D prog_9_method_80_code 109 1 110 (.iload_n 3) := ⟨by decide +kernel, rfl⟩
set_option maxRecDepth 100000 in
theorem ii_mo_kindsBy_110 : sm_D prog_9_method_80_code 110 2 112 (.iload 5) := ⟨by decide +kernel, rfl⟩
set_option maxRecDepth 100000 in
theorem ii_mo_kindsBy_112 : sm_D prog_9_method_80_code 112 3 115 (.ifCond .eq 10) := ⟨by decide +kernel, rfl⟩
set_option maxRecDepth 100000 in
theorem ii_mo_kindsBy_115 : sm_D prog_9_method_80_code 115 1 116 (.iconst 1) := ⟨by decide +kernel, rfl⟩
set_option maxRecDepth 100000 in
theorem ii_mo_kindsBy_116 : sm_D prog_9_method_80_code 116 2 118 (.iload 4) := ⟨by decide +kernel, rfl⟩
set_option maxRecDepth 100000 in
theorem ii_mo_kindsBy_118 : sm_D prog_9_method_80_code 118 1 119 (.ishl) := ⟨by decide +kernel, rfl⟩
set_option maxRecDepth 100000 in
theorem ii_mo_kindsBy_119 : sm_D prog_9_method_80_code 119 3 122 (.goto 4) := ⟨by decide +kernel, rfl⟩
set_option maxRecDepth 100000 in
theorem ii_mo_kindsBy_122 : sm_D prog_9_method_80_code 122 1 123 (.iconst 0) := ⟨by decide +kernel, rfl⟩
set_option maxRecDepth 100000 in
theorem ii_mo_kindsBy_123 : sm_D prog_9_method_80_code 123 1 124 (.ior) := ⟨by decide +kernel, rfl⟩
set_option maxRecDepth 100000 in
theorem ii_mo_kindsBy_124 : sm_D prog_9_method_80_code 124 1 125 (.istore_n 3) := ⟨by decide +kernel, rfl⟩
set_option maxRecDepth 100000 in
theorem ii_mo_kindsBy_125 : sm_D prog_9_method_80_code 125 3 128 (.iinc 4 1) := ⟨by decide +kernel, rfl⟩
set_option maxRecDepth 100000 in
theorem ii_mo_kindsBy_128 : sm_D prog_9_method_80_code 128 3 131 (.goto (-123)) := ⟨by decide +kernel, rfl⟩
set_option maxRecDepth 100000 in
theorem ii_mo_kindsBy_131 : sm_D prog_9_method_80_code 131 1 132 (.iload_n 3) := ⟨by decide +kernel, rfl⟩
set_option maxRecDepth 100000 in
theorem ii_mo_kindsBy_132 : sm_D prog_9_method_80_code 132 1 133 (.ireturn) := ⟨by decide +kernel, rfl⟩
noncomputable def ff_mo_kindsBy_123 (self5 : Int32 → Int32 → Int32 → Int32 → sm_Mem → sm_R) (a1 : Int32) (a2 : Int32) (a4 : Int32) (b0 : Int32) (b1 : Int32) (w : sm_Mem) : sm_R := self5 (a1) (a2) ((b0 ||| b1)) ((a4 + (1 : Int32))) w
set_option maxHeartbeats 4000000 in
set_option maxRecDepth 100000 in
theorem ss_mo_kindsBy_123 {E : Nat × (Nat → Int32)} (self5 : Int32 → Int32 → Int32 → Int32 → sm_Mem → sm_R) (hself5 : ∀ (a1 : Int32) (a2 : Int32) (a3 : Int32) (a4 : Int32) (w : sm_Mem), sm_Sim E (mi_mo_kindsBy) 5 [some (.ref 62), some (.int a1), some (.int a2), some (.int a3), some (.int a4), none, none] [] w (self5 a1 a2 a3 a4 w)) (a1 : Int32) (a2 : Int32) (a4 : Int32) (b0 : Int32) (b1 : Int32) (w : sm_Mem) : sm_Sim E (mi_mo_kindsBy) 123 [some (.ref 62), some (.int a1), some (.int a2), none, some (.int a4), none, none] [.int b1, .int b0] w (ff_mo_kindsBy_123 self5 a1 a2 a4 b0 b1 w) := by
  unfold ff_mo_kindsBy_123
  refine sm_ior ii_mo_kindsBy_123 ?_
  refine sm_istore_n [some (.ref 62), some (.int a1), some (.int a2), some (.int (b0 ||| b1)), some (.int a4), none, none] ii_mo_kindsBy_124 rfl rfl ?_
  refine sm_iinc (a4 + (1 : Int32)) [some (.ref 62), some (.int a1), some (.int a2), some (.int (b0 ||| b1)), some (.int (a4 + (1 : Int32))), none, none] ii_mo_kindsBy_125 rfl rfl rfl rfl ?_
  refine sm_goto 5 ii_mo_kindsBy_128 (by decide) ?_
  exact hself5 (a1) (a2) ((b0 ||| b1)) ((a4 + (1 : Int32))) w
noncomputable def ff_mo_kindsBy_100 (self5 : Int32 → Int32 → Int32 → Int32 → sm_Mem → sm_R) (self21 : Int32 → Int32 → Int32 → Int32 → Int32 → Int32 → sm_Mem → sm_R) (a1 : Int32) (a2 : Int32) (a3 : Int32) (a4 : Int32) (a6 : Int32) (w : sm_Mem) : sm_R := self21 (a1) (a2) (a3) (a4) ((0 : Int32)) ((a6 + (3 : Int32))) w
set_option maxHeartbeats 4000000 in
set_option maxRecDepth 100000 in
theorem ss_mo_kindsBy_100 {E : Nat × (Nat → Int32)} (self5 : Int32 → Int32 → Int32 → Int32 → sm_Mem → sm_R) (hself5 : ∀ (a1 : Int32) (a2 : Int32) (a3 : Int32) (a4 : Int32) (w : sm_Mem), sm_Sim E (mi_mo_kindsBy) 5 [some (.ref 62), some (.int a1), some (.int a2), some (.int a3), some (.int a4), none, none] [] w (self5 a1 a2 a3 a4 w)) (self21 : Int32 → Int32 → Int32 → Int32 → Int32 → Int32 → sm_Mem → sm_R) (hself21 : ∀ (a1 : Int32) (a2 : Int32) (a3 : Int32) (a4 : Int32) (a5 : Int32) (a6 : Int32) (w : sm_Mem), sm_Sim E (mi_mo_kindsBy) 21 [some (.ref 62), some (.int a1), some (.int a2), some (.int a3), some (.int a4), some (.int a5), some (.int a6)] [] w (self21 a1 a2 a3 a4 a5 a6 w)) (a1 : Int32) (a2 : Int32) (a3 : Int32) (a4 : Int32) (a6 : Int32) (w : sm_Mem) : sm_Sim E (mi_mo_kindsBy) 100 [some (.ref 62), some (.int a1), some (.int a2), some (.int a3), some (.int a4), none, some (.int a6)] [] w (ff_mo_kindsBy_100 self5 self21 a1 a2 a3 a4 a6 w) := by
  unfold ff_mo_kindsBy_100
  refine sm_iconst (0 : Int32) ii_mo_kindsBy_100 (by decide) ?_
  refine sm_istore [some (.ref 62), some (.int a1), some (.int a2), some (.int a3), some (.int a4), some (.int (0 : Int32)), some (.int a6)] ii_mo_kindsBy_101 rfl rfl ?_
  refine sm_iinc (a6 + (3 : Int32)) [some (.ref 62), some (.int a1), some (.int a2), some (.int a3), some (.int a4), some (.int (0 : Int32)), some (.int (a6 + (3 : Int32)))] ii_mo_kindsBy_103 rfl rfl rfl rfl ?_
  refine sm_goto 21 ii_mo_kindsBy_106 (by decide) ?_
  exact hself21 (a1) (a2) (a3) (a4) ((0 : Int32)) ((a6 + (3 : Int32))) w
noncomputable def ff_mo_kindsBy_93 (self5 : Int32 → Int32 → Int32 → Int32 → sm_Mem → sm_R) (self21 : Int32 → Int32 → Int32 → Int32 → Int32 → Int32 → sm_Mem → sm_R) (a1 : Int32) (a2 : Int32) (a3 : Int32) (a4 : Int32) (a6 : Int32) (b0 : Int32) (b1 : Int32) (w : sm_Mem) : sm_R := (if b0 = b1 then self21 (a1) (a2) (a3) (a4) ((1 : Int32)) ((a6 + (3 : Int32))) w else ff_mo_kindsBy_100 self5 self21 (a1) (a2) (a3) (a4) (a6) w)
set_option maxHeartbeats 4000000 in
set_option maxRecDepth 100000 in
theorem ss_mo_kindsBy_93 {E : Nat × (Nat → Int32)} (self5 : Int32 → Int32 → Int32 → Int32 → sm_Mem → sm_R) (hself5 : ∀ (a1 : Int32) (a2 : Int32) (a3 : Int32) (a4 : Int32) (w : sm_Mem), sm_Sim E (mi_mo_kindsBy) 5 [some (.ref 62), some (.int a1), some (.int a2), some (.int a3), some (.int a4), none, none] [] w (self5 a1 a2 a3 a4 w)) (self21 : Int32 → Int32 → Int32 → Int32 → Int32 → Int32 → sm_Mem → sm_R) (hself21 : ∀ (a1 : Int32) (a2 : Int32) (a3 : Int32) (a4 : Int32) (a5 : Int32) (a6 : Int32) (w : sm_Mem), sm_Sim E (mi_mo_kindsBy) 21 [some (.ref 62), some (.int a1), some (.int a2), some (.int a3), some (.int a4), some (.int a5), some (.int a6)] [] w (self21 a1 a2 a3 a4 a5 a6 w)) (a1 : Int32) (a2 : Int32) (a3 : Int32) (a4 : Int32) (a6 : Int32) (b0 : Int32) (b1 : Int32) (w : sm_Mem) : sm_Sim E (mi_mo_kindsBy) 93 [some (.ref 62), some (.int a1), some (.int a2), some (.int a3), some (.int a4), none, some (.int a6)] [.int b1, .int b0] w (ff_mo_kindsBy_93 self5 self21 a1 a2 a3 a4 a6 b0 b1 w) := by
  unfold ff_mo_kindsBy_93
  refine sm_icmp_ne 100 ii_mo_kindsBy_93 (by decide) ?_ ?_
  · refine sm_iconst (1 : Int32) ii_mo_kindsBy_96 (by decide) ?_
    refine sm_goto 101 ii_mo_kindsBy_97 (by decide) ?_
    refine sm_istore [some (.ref 62), some (.int a1), some (.int a2), some (.int a3), some (.int a4), some (.int (1 : Int32)), some (.int a6)] ii_mo_kindsBy_101 rfl rfl ?_
    refine sm_iinc (a6 + (3 : Int32)) [some (.ref 62), some (.int a1), some (.int a2), some (.int a3), some (.int a4), some (.int (1 : Int32)), some (.int (a6 + (3 : Int32)))] ii_mo_kindsBy_103 rfl rfl rfl rfl ?_
    refine sm_goto 21 ii_mo_kindsBy_106 (by decide) ?_
    exact hself21 (a1) (a2) (a3) (a4) ((1 : Int32)) ((a6 + (3 : Int32))) w
  · exact ss_mo_kindsBy_100 self5 hself5 self21 hself21 (a1) (a2) (a3) (a4) (a6) w
noncomputable def ff_mo_kindsBy_21_b (self5 : Int32 → Int32 → Int32 → Int32 → sm_Mem → sm_R) (self21 : Int32 → Int32 → Int32 → Int32 → Int32 → Int32 → sm_Mem → sm_R) (a1 : Int32) (a2 : Int32) (a3 : Int32) (a4 : Int32) (a5 : Int32) (a6 : Int32) (w : sm_Mem) : sm_R := (Option.bind (sm_rd w 67 6 a2) fun x1 => (if (((40 : Int32) * a2) + x1) ≤ a6 then (if a5 = (0 : Int32) then ff_mo_kindsBy_123 self5 (a1) (a2) (a4) (a3) ((0 : Int32)) w else ff_mo_kindsBy_123 self5 (a1) (a2) (a4) (a3) (((1 : Int32) <<< (a4 &&& (31 : Int32)))) w) else (if a5 = (0 : Int32) then ff_mo_kindsBy_100 self5 self21 (a1) (a2) (a3) (a4) (a6) w else (Option.bind (sm_rd w 65 7 a1) fun x2 => (Option.bind (sm_rd w 68 240 a6) fun x3 => (Option.bind (sm_rd w 68 240 (a6 + (1 : Int32))) fun x4 => (Option.bind (sm_rd w 63 5184 (1 : Int32)) fun x5 => (sm_cI (ff_mo_isAble (a4) (x2) (x3) (x4) (x5) w) fun x6 w7 => (Option.bind (sm_rd w7 68 240 (a6 + (2 : Int32))) fun x8 => (if x8 = (1 : Int32) then ff_mo_kindsBy_93 self5 self21 (a1) (a2) (a3) (a4) (a6) (x6) ((1 : Int32)) w7 else ff_mo_kindsBy_93 self5 self21 (a1) (a2) (a3) (a4) (a6) (x6) ((0 : Int32)) w7))))))))))
noncomputable def ff_mo_kindsBy_21_f (self5 : Int32 → Int32 → Int32 → Int32 → sm_Mem → sm_R) : Nat → Int32 → Int32 → Int32 → Int32 → Int32 → Int32 → sm_Mem → sm_R
  | 0, _, _, _, _, _, _, _ => none
  | n + 1, a1, a2, a3, a4, a5, a6, w => ff_mo_kindsBy_21_b self5 (ff_mo_kindsBy_21_f self5 n) a1 a2 a3 a4 a5 a6 w
noncomputable def ff_mo_kindsBy_21 (self5 : Int32 → Int32 → Int32 → Int32 → sm_Mem → sm_R) (a1 : Int32) (a2 : Int32) (a3 : Int32) (a4 : Int32) (a5 : Int32) (a6 : Int32) (w : sm_Mem) : sm_R := ff_mo_kindsBy_21_f self5 sm_N a1 a2 a3 a4 a5 a6 w
set_option maxHeartbeats 4000000 in
set_option maxRecDepth 100000 in
theorem ss_mo_kindsBy_21_b {E : Nat × (Nat → Int32)} (self5 : Int32 → Int32 → Int32 → Int32 → sm_Mem → sm_R) (hself5 : ∀ (a1 : Int32) (a2 : Int32) (a3 : Int32) (a4 : Int32) (w : sm_Mem), sm_Sim E (mi_mo_kindsBy) 5 [some (.ref 62), some (.int a1), some (.int a2), some (.int a3), some (.int a4), none, none] [] w (self5 a1 a2 a3 a4 w)) (self21 : Int32 → Int32 → Int32 → Int32 → Int32 → Int32 → sm_Mem → sm_R) (hself21 : ∀ (a1 : Int32) (a2 : Int32) (a3 : Int32) (a4 : Int32) (a5 : Int32) (a6 : Int32) (w : sm_Mem), sm_Sim E (mi_mo_kindsBy) 21 [some (.ref 62), some (.int a1), some (.int a2), some (.int a3), some (.int a4), some (.int a5), some (.int a6)] [] w (self21 a1 a2 a3 a4 a5 a6 w)) (a1 : Int32) (a2 : Int32) (a3 : Int32) (a4 : Int32) (a5 : Int32) (a6 : Int32) (w : sm_Mem) : sm_Sim E (mi_mo_kindsBy) 21 [some (.ref 62), some (.int a1), some (.int a2), some (.int a3), some (.int a4), some (.int a5), some (.int a6)] [] w (ff_mo_kindsBy_21_b self5 self21 a1 a2 a3 a4 a5 a6 w) := by
  unfold ff_mo_kindsBy_21_b
  refine sm_iload ii_mo_kindsBy_21 rfl ?_
  refine sm_bipush (40 : Int32) ii_mo_kindsBy_23 (by decide) ?_
  refine sm_iload_n ii_mo_kindsBy_25 rfl ?_
  refine sm_imul ii_mo_kindsBy_26 ?_
  refine sm_aload_n ii_mo_kindsBy_27 rfl ?_
  refine sm_getR 67 ii_mo_kindsBy_28 fl_mo_22 (k := 62) rfl ?_
  refine sm_iload_n ii_mo_kindsBy_31 rfl ?_
  refine sm_iald ii_mo_kindsBy_32 (k := 67) rfl (fun x1 => ?_)
  refine sm_iadd ii_mo_kindsBy_33 ?_
  refine sm_icmp_ge 109 ii_mo_kindsBy_34 (by decide) ?_ ?_
  · refine sm_iload_n ii_mo_kindsBy_109 rfl ?_
    refine sm_iload ii_mo_kindsBy_110 rfl ?_
    refine sm_if_eq 122 ii_mo_kindsBy_112 (by decide) ?_ ?_
    · refine sm_iconst (0 : Int32) ii_mo_kindsBy_122 (by decide) ?_
      refine sm_msk [true, true, true, false, true, false, false] [some (.ref 62), some (.int a1), some (.int a2), none, some (.int a4), none, none] rfl ?_
      exact ss_mo_kindsBy_123 self5 hself5 (a1) (a2) (a4) (a3) ((0 : Int32)) w
    · refine sm_iconst (1 : Int32) ii_mo_kindsBy_115 (by decide) ?_
      refine sm_iload ii_mo_kindsBy_116 rfl ?_
      refine sm_ishl ii_mo_kindsBy_118 ?_
      refine sm_goto 123 ii_mo_kindsBy_119 (by decide) ?_
      refine sm_msk [true, true, true, false, true, false, false] [some (.ref 62), some (.int a1), some (.int a2), none, some (.int a4), none, none] rfl ?_
      exact ss_mo_kindsBy_123 self5 hself5 (a1) (a2) (a4) (a3) (((1 : Int32) <<< (a4 &&& (31 : Int32)))) w
  · refine sm_iload ii_mo_kindsBy_37 rfl ?_
    refine sm_if_eq 100 ii_mo_kindsBy_39 (by decide) ?_ ?_
    · refine sm_msk [true, true, true, true, true, false, true] [some (.ref 62), some (.int a1), some (.int a2), some (.int a3), some (.int a4), none, some (.int a6)] rfl ?_
      exact ss_mo_kindsBy_100 self5 hself5 self21 hself21 (a1) (a2) (a3) (a4) (a6) w
    · refine sm_iload ii_mo_kindsBy_42 rfl ?_
      refine sm_aload_n ii_mo_kindsBy_44 rfl ?_
      refine sm_getR 65 ii_mo_kindsBy_45 fl_mo_16 (k := 62) rfl ?_
      refine sm_iload_n ii_mo_kindsBy_48 rfl ?_
      refine sm_iald ii_mo_kindsBy_49 (k := 65) rfl (fun x2 => ?_)
      refine sm_aload_n ii_mo_kindsBy_50 rfl ?_
      refine sm_getR 68 ii_mo_kindsBy_51 fl_mo_25 (k := 62) rfl ?_
      refine sm_iload ii_mo_kindsBy_54 rfl ?_
      refine sm_iald ii_mo_kindsBy_56 (k := 68) rfl (fun x3 => ?_)
      refine sm_aload_n ii_mo_kindsBy_57 rfl ?_
      refine sm_getR 68 ii_mo_kindsBy_58 fl_mo_25 (k := 62) rfl ?_
      refine sm_iload ii_mo_kindsBy_61 rfl ?_
      refine sm_iconst (1 : Int32) ii_mo_kindsBy_63 (by decide) ?_
      refine sm_iadd ii_mo_kindsBy_64 ?_
      refine sm_iald ii_mo_kindsBy_65 (k := 68) rfl (fun x4 => ?_)
      refine sm_aload_n ii_mo_kindsBy_66 rfl ?_
      refine sm_getR 63 ii_mo_kindsBy_67 fl_mo_7 (k := 62) rfl ?_
      refine sm_iconst (1 : Int32) ii_mo_kindsBy_70 (by decide) ?_
      refine sm_iald ii_mo_kindsBy_71 (k := 63) rfl (fun x5 => ?_)
      refine sm_csI [.int a4, .int x2, .int x3, .int x4, .int x5] [] rfl ii_mo_kindsBy_72 ml_mo_153 (mf_mo_isAble) (mv_mo_isAble) (Nat.le_of_ble_eq_true rfl) rfl rfl rfl (mc_mo_isAble (a4) (x2) (x3) (x4) (x5) w) (fun x6 w7 => ?_)
      refine sm_aload_n ii_mo_kindsBy_75 rfl ?_
      refine sm_getR 68 ii_mo_kindsBy_76 fl_mo_25 (k := 62) rfl ?_
      refine sm_iload ii_mo_kindsBy_79 rfl ?_
      refine sm_iconst (2 : Int32) ii_mo_kindsBy_81 (by decide) ?_
      refine sm_iadd ii_mo_kindsBy_82 ?_
      refine sm_iald ii_mo_kindsBy_83 (k := 68) rfl (fun x8 => ?_)
      refine sm_iconst (1 : Int32) ii_mo_kindsBy_84 (by decide) ?_
      refine sm_icmp_ne 92 ii_mo_kindsBy_85 (by decide) ?_ ?_
      · refine sm_iconst (1 : Int32) ii_mo_kindsBy_88 (by decide) ?_
        refine sm_goto 93 ii_mo_kindsBy_89 (by decide) ?_
        refine sm_msk [true, true, true, true, true, false, true] [some (.ref 62), some (.int a1), some (.int a2), some (.int a3), some (.int a4), none, some (.int a6)] rfl ?_
        exact ss_mo_kindsBy_93 self5 hself5 self21 hself21 (a1) (a2) (a3) (a4) (a6) (x6) ((1 : Int32)) w7
      · refine sm_iconst (0 : Int32) ii_mo_kindsBy_92 (by decide) ?_
        refine sm_msk [true, true, true, true, true, false, true] [some (.ref 62), some (.int a1), some (.int a2), some (.int a3), some (.int a4), none, some (.int a6)] rfl ?_
        exact ss_mo_kindsBy_93 self5 hself5 self21 hself21 (a1) (a2) (a3) (a4) (a6) (x6) ((0 : Int32)) w7
set_option maxHeartbeats 4000000 in
set_option maxRecDepth 100000 in
theorem ss_mo_kindsBy_21_f {E : Nat × (Nat → Int32)} (self5 : Int32 → Int32 → Int32 → Int32 → sm_Mem → sm_R) (hself5 : ∀ (a1 : Int32) (a2 : Int32) (a3 : Int32) (a4 : Int32) (w : sm_Mem), sm_Sim E (mi_mo_kindsBy) 5 [some (.ref 62), some (.int a1), some (.int a2), some (.int a3), some (.int a4), none, none] [] w (self5 a1 a2 a3 a4 w)) : ∀ (n : Nat) (a1 : Int32) (a2 : Int32) (a3 : Int32) (a4 : Int32) (a5 : Int32) (a6 : Int32) (w : sm_Mem), sm_Sim E (mi_mo_kindsBy) 21 [some (.ref 62), some (.int a1), some (.int a2), some (.int a3), some (.int a4), some (.int a5), some (.int a6)] [] w (ff_mo_kindsBy_21_f self5 n a1 a2 a3 a4 a5 a6 w)
  | 0, _, _, _, _, _, _, _ => fun _ _ h => by cases h
  | n + 1, a1, a2, a3, a4, a5, a6, w => ss_mo_kindsBy_21_b self5 hself5 _ (ss_mo_kindsBy_21_f self5 hself5 n) a1 a2 a3 a4 a5 a6 w
set_option maxHeartbeats 4000000 in
set_option maxRecDepth 100000 in
theorem ss_mo_kindsBy_21 {E : Nat × (Nat → Int32)} (self5 : Int32 → Int32 → Int32 → Int32 → sm_Mem → sm_R) (hself5 : ∀ (a1 : Int32) (a2 : Int32) (a3 : Int32) (a4 : Int32) (w : sm_Mem), sm_Sim E (mi_mo_kindsBy) 5 [some (.ref 62), some (.int a1), some (.int a2), some (.int a3), some (.int a4), none, none] [] w (self5 a1 a2 a3 a4 w)) (a1 : Int32) (a2 : Int32) (a3 : Int32) (a4 : Int32) (a5 : Int32) (a6 : Int32) (w : sm_Mem) : sm_Sim E (mi_mo_kindsBy) 21 [some (.ref 62), some (.int a1), some (.int a2), some (.int a3), some (.int a4), some (.int a5), some (.int a6)] [] w (ff_mo_kindsBy_21 self5 a1 a2 a3 a4 a5 a6 w) := ss_mo_kindsBy_21_f self5 hself5 sm_N a1 a2 a3 a4 a5 a6 w
noncomputable def ff_mo_kindsBy_5_b  (self5 : Int32 → Int32 → Int32 → Int32 → sm_Mem → sm_R) (a1 : Int32) (a2 : Int32) (a3 : Int32) (a4 : Int32) (w : sm_Mem) : sm_R := (if (6 : Int32) ≤ a4 then (some (.int a3, w)) else ff_mo_kindsBy_21 self5 (a1) (a2) (a3) (a4) ((1 : Int32)) (((40 : Int32) * a2)) w)
noncomputable def ff_mo_kindsBy_5_f  : Nat → Int32 → Int32 → Int32 → Int32 → sm_Mem → sm_R
  | 0, _, _, _, _, _ => none
  | n + 1, a1, a2, a3, a4, w => ff_mo_kindsBy_5_b  (ff_mo_kindsBy_5_f  n) a1 a2 a3 a4 w
noncomputable def ff_mo_kindsBy_5  (a1 : Int32) (a2 : Int32) (a3 : Int32) (a4 : Int32) (w : sm_Mem) : sm_R := ff_mo_kindsBy_5_f  sm_N a1 a2 a3 a4 w
set_option maxHeartbeats 4000000 in
set_option maxRecDepth 100000 in
theorem ss_mo_kindsBy_5_b {E : Nat × (Nat → Int32)}  (self5 : Int32 → Int32 → Int32 → Int32 → sm_Mem → sm_R) (hself5 : ∀ (a1 : Int32) (a2 : Int32) (a3 : Int32) (a4 : Int32) (w : sm_Mem), sm_Sim E (mi_mo_kindsBy) 5 [some (.ref 62), some (.int a1), some (.int a2), some (.int a3), some (.int a4), none, none] [] w (self5 a1 a2 a3 a4 w)) (a1 : Int32) (a2 : Int32) (a3 : Int32) (a4 : Int32) (w : sm_Mem) : sm_Sim E (mi_mo_kindsBy) 5 [some (.ref 62), some (.int a1), some (.int a2), some (.int a3), some (.int a4), none, none] [] w (ff_mo_kindsBy_5_b  self5 a1 a2 a3 a4 w) := by
  unfold ff_mo_kindsBy_5_b
  refine sm_iload ii_mo_kindsBy_5 rfl ?_
  refine sm_bipush (6 : Int32) ii_mo_kindsBy_7 (by decide) ?_
  refine sm_icmp_ge 131 ii_mo_kindsBy_9 (by decide) ?_ ?_
  · refine sm_iload_n ii_mo_kindsBy_131 rfl ?_
    exact sm_iret ii_mo_kindsBy_132 rfl
  · refine sm_iconst (1 : Int32) ii_mo_kindsBy_12 (by decide) ?_
    refine sm_istore [some (.ref 62), some (.int a1), some (.int a2), some (.int a3), some (.int a4), some (.int (1 : Int32)), none] ii_mo_kindsBy_13 rfl rfl ?_
    refine sm_bipush (40 : Int32) ii_mo_kindsBy_15 (by decide) ?_
    refine sm_iload_n ii_mo_kindsBy_17 rfl ?_
    refine sm_imul ii_mo_kindsBy_18 ?_
    refine sm_istore [some (.ref 62), some (.int a1), some (.int a2), some (.int a3), some (.int a4), some (.int (1 : Int32)), some (.int ((40 : Int32) * a2))] ii_mo_kindsBy_19 rfl rfl ?_
    exact ss_mo_kindsBy_21 self5 hself5 (a1) (a2) (a3) (a4) ((1 : Int32)) (((40 : Int32) * a2)) w
set_option maxHeartbeats 4000000 in
set_option maxRecDepth 100000 in
theorem ss_mo_kindsBy_5_f {E : Nat × (Nat → Int32)}  : ∀ (n : Nat) (a1 : Int32) (a2 : Int32) (a3 : Int32) (a4 : Int32) (w : sm_Mem), sm_Sim E (mi_mo_kindsBy) 5 [some (.ref 62), some (.int a1), some (.int a2), some (.int a3), some (.int a4), none, none] [] w (ff_mo_kindsBy_5_f  n a1 a2 a3 a4 w)
  | 0, _, _, _, _, _ => fun _ _ h => by cases h
  | n + 1, a1, a2, a3, a4, w => ss_mo_kindsBy_5_b  _ (ss_mo_kindsBy_5_f  n) a1 a2 a3 a4 w
set_option maxHeartbeats 4000000 in
set_option maxRecDepth 100000 in
theorem ss_mo_kindsBy_5 {E : Nat × (Nat → Int32)}  (a1 : Int32) (a2 : Int32) (a3 : Int32) (a4 : Int32) (w : sm_Mem) : sm_Sim E (mi_mo_kindsBy) 5 [some (.ref 62), some (.int a1), some (.int a2), some (.int a3), some (.int a4), none, none] [] w (ff_mo_kindsBy_5  a1 a2 a3 a4 w) := ss_mo_kindsBy_5_f  sm_N a1 a2 a3 a4 w
noncomputable def ff_mo_kindsBy  (a1 : Int32) (a2 : Int32) (w : sm_Mem) : sm_R := ff_mo_kindsBy_5 (a1) (a2) ((0 : Int32)) ((0 : Int32)) w
set_option maxHeartbeats 4000000 in
set_option maxRecDepth 100000 in
theorem ss_mo_kindsBy_0 {E : Nat × (Nat → Int32)}  (a1 : Int32) (a2 : Int32) (w : sm_Mem) : sm_Sim E (mi_mo_kindsBy) 0 [some (.ref 62), some (.int a1), some (.int a2), none, none, none, none] [] w (ff_mo_kindsBy  a1 a2 w) := by
  unfold ff_mo_kindsBy
  refine sm_iconst (0 : Int32) ii_mo_kindsBy_0 (by decide) ?_
  refine sm_istore_n [some (.ref 62), some (.int a1), some (.int a2), some (.int (0 : Int32)), none, none, none] ii_mo_kindsBy_1 rfl rfl ?_
  refine sm_iconst (0 : Int32) ii_mo_kindsBy_2 (by decide) ?_
  refine sm_istore [some (.ref 62), some (.int a1), some (.int a2), some (.int (0 : Int32)), some (.int (0 : Int32)), none, none] ii_mo_kindsBy_3 rfl rfl ?_
  exact ss_mo_kindsBy_5 (a1) (a2) ((0 : Int32)) ((0 : Int32)) w
set_option maxHeartbeats 4000000 in
set_option maxRecDepth 100000 in
theorem mc_mo_kindsBy (a1 : Int32) (a2 : Int32) (w : sm_Mem) : sm_MC mi_mo_kindsBy [.ref 62, .int a1, .int a2] w (ff_mo_kindsBy a1 a2 w) := sm_MC_of (0, fun _ => 0) (by decide +kernel) (by decide) rfl (Nat.le_of_ble_eq_true rfl) (ss_mo_kindsBy_0 a1 a2 w)
abbrev mi_mo_kinds : sm_MI := (⟨"HerOrdersModel", "kinds", "(II)I"⟩, prog_9_method_81_code, 4, (some .int), 4)
set_option maxRecDepth 100000 in
theorem mf_mo_kinds : sm_MF mi_mo_kinds 2 := ⟨List.mem_of_getElem? (i := 1334) (by decide +kernel), List.mem_of_getElem? (i := 132) (by decide +kernel), ⟨by decide, by decide⟩, by decide +kernel⟩
set_option maxRecDepth 100000 in
theorem mv_mo_kinds : sm_MFV mi_mo_kinds := ⟨List.mem_of_getElem? (i := 1332) (by decide +kernel), List.mem_of_getElem? (i := 1333) (by decide +kernel)⟩
set_option maxRecDepth 100000 in
theorem ii_mo_kinds_0 : sm_D prog_9_method_81_code 0 1 1 (.aload_n 0) := ⟨by decide +kernel, rfl⟩
set_option maxRecDepth 100000 in
theorem ii_mo_kinds_1 : sm_D prog_9_method_81_code 1 1 2 (.iload_n 1) := ⟨by decide +kernel, rfl⟩
set_option maxRecDepth 100000 in
theorem ii_mo_kinds_2 : sm_D prog_9_method_81_code 2 3 5 (.invokevirtual 160) := ⟨by decide +kernel, rfl⟩
set_option maxRecDepth 100000 in
theorem ii_mo_kinds_5 : sm_D prog_9_method_81_code 5 3 8 (.ifCond .eq 10) := ⟨by decide +kernel, rfl⟩
set_option maxRecDepth 100000 in
theorem ii_mo_kinds_8 : sm_D prog_9_method_81_code 8 1 9 (.iload_n 2) := ⟨by decide +kernel, rfl⟩
set_option maxRecDepth 100000 in
theorem ii_mo_kinds_9 : sm_D prog_9_method_81_code 9 3 12 (.invokestatic 77) := ⟨by decide +kernel, rfl⟩
set_option maxRecDepth 100000 in
theorem ii_mo_kinds_12 : sm_D prog_9_method_81_code 12 3 15 (.ifCond .ne 5) := ⟨by decide +kernel, rfl⟩
set_option maxRecDepth 100000 in
theorem ii_mo_kinds_15 : sm_D prog_9_method_81_code 15 1 16 (.iconst (-1)) := ⟨by decide +kernel, rfl⟩
set_option maxRecDepth 100000 in
theorem ii_mo_kinds_16 : sm_D prog_9_method_81_code 16 1 17 (.ireturn) := ⟨by decide +kernel, rfl⟩
set_option maxRecDepth 100000 in
theorem ii_mo_kinds_17 : sm_D prog_9_method_81_code 17 1 18 (.aload_n 0) := ⟨by decide +kernel, rfl⟩
set_option maxRecDepth 100000 in
theorem ii_mo_kinds_18 : sm_D prog_9_method_81_code 18 1 19 (.iload_n 2) := ⟨by decide +kernel, rfl⟩
set_option maxRecDepth 100000 in
theorem ii_mo_kinds_19 : sm_D prog_9_method_81_code 19 3 22 (.invokevirtual 263) := ⟨by decide +kernel, rfl⟩
set_option maxRecDepth 100000 in
theorem ii_mo_kinds_22 : sm_D prog_9_method_81_code 22 1 23 (.istore_n 3) := ⟨by decide +kernel, rfl⟩
set_option maxRecDepth 100000 in
theorem ii_mo_kinds_23 : sm_D prog_9_method_81_code 23 1 24 (.iload_n 3) := ⟨by decide +kernel, rfl⟩
set_option maxRecDepth 100000 in
theorem ii_mo_kinds_24 : sm_D prog_9_method_81_code 24 3 27 (.ifCond .eq 7) := ⟨by decide +kernel, rfl⟩
set_option maxRecDepth 100000 in
theorem ii_mo_kinds_27 : sm_D prog_9_method_81_code 27 1 28 (.iload_n 3) := ⟨by decide +kernel, rfl⟩
set_option maxRecDepth 100000 in
theorem ii_mo_kinds_28 : sm_D prog_9_method_81_code 28 3 31 (.goto 9) := ⟨by decide +kernel, rfl⟩
set_option maxRecDepth 100000 in
theorem ii_mo_kinds_31 : sm_D prog_9_method_81_code 31 1 32 (.aload_n 0) := ⟨by decide +kernel, rfl⟩
set_option maxRecDepth 100000 in
theorem ii_mo_kinds_32 : sm_D prog_9_method_81_code 32 1 33 (.iload_n 1) := ⟨by decide +kernel, rfl⟩
set_option maxRecDepth 100000 in
theorem ii_mo_kinds_33 : sm_D prog_9_method_81_code 33 1 34 (.iload_n 2) := ⟨by decide +kernel, rfl⟩
set_option maxRecDepth 100000 in
theorem ii_mo_kinds_34 : sm_D prog_9_method_81_code 34 3 37 (.invokevirtual 266) := ⟨by decide +kernel, rfl⟩
set_option maxRecDepth 100000 in
theorem ii_mo_kinds_37 : sm_D prog_9_method_81_code 37 1 38 (.ireturn) := ⟨by decide +kernel, rfl⟩
noncomputable def ff_mo_kinds  (a1 : Int32) (a2 : Int32) (w : sm_Mem) : sm_R := (sm_cI (ff_mo_isSpeaker (a1) w) fun x1 w2 => (if x1 = (0 : Int32) then (some (.int (-1 : Int32), w2)) else (sm_cI (ff_mo_isRow (a2) w2) fun x3 w4 => (if x3 = (0 : Int32) then (some (.int (-1 : Int32), w4)) else (sm_cI (ff_mo_noTriples (a2) w4) fun x5 w6 => (if x5 = (0 : Int32) then (sm_cI (ff_mo_kindsBy (a1) (a2) w6) fun x7 w8 => (some (.int x7, w8))) else (some (.int x5, w6))))))))
set_option maxHeartbeats 4000000 in
set_option maxRecDepth 100000 in
theorem ss_mo_kinds_0 {E : Nat × (Nat → Int32)}  (a1 : Int32) (a2 : Int32) (w : sm_Mem) : sm_Sim E (mi_mo_kinds) 0 [some (.ref 62), some (.int a1), some (.int a2), none] [] w (ff_mo_kinds  a1 a2 w) := by
  unfold ff_mo_kinds
  refine sm_aload_n ii_mo_kinds_0 rfl ?_
  refine sm_iload_n ii_mo_kinds_1 rfl ?_
  refine sm_cvI [.int a1] [] rfl ii_mo_kinds_2 ml_mo_160 (mf_mo_isSpeaker) (mv_mo_isSpeaker) (Nat.le_of_ble_eq_true rfl) rfl 7 rfl rfl rfl rfl (mc_mo_isSpeaker (a1) w) (fun x1 w2 => ?_)
  refine sm_if_eq 15 ii_mo_kinds_5 (by decide) ?_ ?_
  · refine sm_iconst (-1 : Int32) ii_mo_kinds_15 (by decide) ?_
    exact sm_iret ii_mo_kinds_16 rfl
  · refine sm_iload_n ii_mo_kinds_8 rfl ?_
    refine sm_csI [.int a2] [] rfl ii_mo_kinds_9 ml_mo_77 (mf_mo_isRow) (mv_mo_isRow) (Nat.le_of_ble_eq_true rfl) rfl rfl rfl (mc_mo_isRow (a2) w2) (fun x3 w4 => ?_)
    refine sm_if_ne 17 ii_mo_kinds_12 (by decide) ?_ ?_
    · refine sm_iconst (-1 : Int32) ii_mo_kinds_15 (by decide) ?_
      exact sm_iret ii_mo_kinds_16 rfl
    · refine sm_aload_n ii_mo_kinds_17 rfl ?_
      refine sm_iload_n ii_mo_kinds_18 rfl ?_
      refine sm_cvI [.int a2] [] rfl ii_mo_kinds_19 ml_mo_263 (mf_mo_noTriples) (mv_mo_noTriples) (Nat.le_of_ble_eq_true rfl) rfl 7 rfl rfl rfl rfl (mc_mo_noTriples (a2) w4) (fun x5 w6 => ?_)
      refine sm_istore_n [some (.ref 62), some (.int a1), some (.int a2), some (.int x5)] ii_mo_kinds_22 rfl rfl ?_
      refine sm_iload_n ii_mo_kinds_23 rfl ?_
      refine sm_if_eq 31 ii_mo_kinds_24 (by decide) ?_ ?_
      · refine sm_aload_n ii_mo_kinds_31 rfl ?_
        refine sm_iload_n ii_mo_kinds_32 rfl ?_
        refine sm_iload_n ii_mo_kinds_33 rfl ?_
        refine sm_cvI [.int a1, .int a2] [] rfl ii_mo_kinds_34 ml_mo_266 (mf_mo_kindsBy) (mv_mo_kindsBy) (Nat.le_of_ble_eq_true rfl) rfl 7 rfl rfl rfl rfl (mc_mo_kindsBy (a1) (a2) w6) (fun x7 w8 => ?_)
        exact sm_iret ii_mo_kinds_37 rfl
      · refine sm_iload_n ii_mo_kinds_27 rfl ?_
        refine sm_goto 37 ii_mo_kinds_28 (by decide) ?_
        exact sm_iret ii_mo_kinds_37 rfl
set_option maxHeartbeats 4000000 in
set_option maxRecDepth 100000 in
theorem mc_mo_kinds (a1 : Int32) (a2 : Int32) (w : sm_Mem) : sm_MC mi_mo_kinds [.ref 62, .int a1, .int a2] w (ff_mo_kinds a1 a2 w) := sm_MC_of (0, fun _ => 0) (by decide +kernel) (by decide) rfl (Nat.le_of_ble_eq_true rfl) (ss_mo_kinds_0 a1 a2 w)
abbrev mi_ho_greaterPart : sm_MI := (⟨"HerOrders", "greaterPart", "(IIII)I"⟩, prog_1_method_60_code, 8, (some .int), 2)
set_option maxRecDepth 100000 in
theorem mf_ho_greaterPart : sm_MF mi_ho_greaterPart 4 := ⟨List.mem_of_getElem? (i := 790) (by decide +kernel), List.mem_of_getElem? (i := 124) (by decide +kernel), ⟨by decide, by decide⟩, by decide +kernel⟩
set_option maxRecDepth 100000 in
theorem mv_ho_greaterPart : sm_MFV mi_ho_greaterPart := ⟨List.mem_of_getElem? (i := 789) (by decide +kernel), List.mem_of_getElem? (i := 55) (by decide +kernel)⟩
set_option maxRecDepth 100000 in
theorem ii_ho_greaterPart_0 : sm_D prog_1_method_60_code 0 1 1 (.iconst 0) := ⟨by decide +kernel, rfl⟩
set_option maxRecDepth 100000 in
theorem ii_ho_greaterPart_1 : sm_D prog_1_method_60_code 1 2 3 (.istore 5) := ⟨by decide +kernel, rfl⟩
set_option maxRecDepth 100000 in
theorem ii_ho_greaterPart_3 : sm_D prog_1_method_60_code 3 1 4 (.iconst 0) := ⟨by decide +kernel, rfl⟩
set_option maxRecDepth 100000 in
theorem ii_ho_greaterPart_4 : sm_D prog_1_method_60_code 4 2 6 (.istore 6) := ⟨by decide +kernel, rfl⟩
set_option maxRecDepth 100000 in
theorem ii_ho_greaterPart_6 : sm_D prog_1_method_60_code 6 1 7 (.iconst 0) := ⟨by decide +kernel, rfl⟩
set_option maxRecDepth 100000 in
theorem ii_ho_greaterPart_7 : sm_D prog_1_method_60_code 7 2 9 (.istore 7) := ⟨by decide +kernel, rfl⟩
set_option maxRecDepth 100000 in
theorem ii_ho_greaterPart_9 : sm_D prog_1_method_60_code 9 2 11 (.iload 7) := ⟨by decide +kernel, rfl⟩
set_option maxRecDepth 100000 in
theorem ii_ho_greaterPart_11 : sm_D prog_1_method_60_code 11 2 13 (.bipush 6) := ⟨by decide +kernel, rfl⟩
set_option maxRecDepth 100000 in
theorem ii_ho_greaterPart_13 : sm_D prog_1_method_60_code 13 3 16 (.if_icmp .ge 46) := ⟨by decide +kernel, rfl⟩
set_option maxRecDepth 100000 in
theorem ii_ho_greaterPart_16 : sm_D prog_1_method_60_code 16 1 17 (.iload_n 2) := ⟨by decide +kernel, rfl⟩
set_option maxRecDepth 100000 in
theorem ii_ho_greaterPart_17 : sm_D prog_1_method_60_code 17 2 19 (.iload 7) := ⟨by decide +kernel, rfl⟩
set_option maxRecDepth 100000 in
theorem ii_ho_greaterPart_19 : sm_D prog_1_method_60_code 19 1 20 (.ishr) := ⟨by decide +kernel, rfl⟩
set_option maxRecDepth 100000 in
theorem ii_ho_greaterPart_20 : sm_D prog_1_method_60_code 20 1 21 (.iconst 1) := ⟨by decide +kernel, rfl⟩
set_option maxRecDepth 100000 in
theorem ii_ho_greaterPart_21 : sm_D prog_1_method_60_code 21 1 22 (.iand) := ⟨by decide +kernel, rfl⟩
set_option maxRecDepth 100000 in
theorem ii_ho_greaterPart_22 : sm_D prog_1_method_60_code 22 3 25 (.ifCond .ne 6) := ⟨by decide +kernel, rfl⟩
set_option maxRecDepth 100000 in
theorem ii_ho_greaterPart_25 : sm_D prog_1_method_60_code 25 3 28 (.goto 28) := ⟨by decide +kernel, rfl⟩
set_option maxRecDepth 100000 in
theorem ii_ho_greaterPart_28 : sm_D prog_1_method_60_code 28 1 29 (.aload_n 0) := ⟨by decide +kernel, rfl⟩
set_option maxRecDepth 100000 in
theorem ii_ho_greaterPart_29 : sm_D prog_1_method_60_code 29 3 32 (.getfield 31) := ⟨by decide +kernel, rfl⟩
set_option maxRecDepth 100000 in
theorem ii_ho_greaterPart_32 : sm_D prog_1_method_60_code 32 1 33 (.iload_n 1) := ⟨by decide +kernel, rfl⟩
set_option maxRecDepth 100000 in
theorem ii_ho_greaterPart_33 : sm_D prog_1_method_60_code 33 2 35 (.iload 7) := ⟨by decide +kernel, rfl⟩
set_option maxRecDepth 100000 in
theorem ii_ho_greaterPart_35 : sm_D prog_1_method_60_code 35 1 36 (.iload_n 3) := ⟨by decide +kernel, rfl⟩
set_option maxRecDepth 100000 in
theorem ii_ho_greaterPart_36 : sm_D prog_1_method_60_code 36 2 38 (.iload 4) := ⟨by decide +kernel, rfl⟩
set_option maxRecDepth 100000 in
theorem ii_ho_greaterPart_38 : sm_D prog_1_method_60_code 38 3 41 (.invokevirtual 352) := ⟨by decide +kernel, rfl⟩
set_option maxRecDepth 100000 in
theorem ii_ho_greaterPart_41 : sm_D prog_1_method_60_code 41 3 44 (.ifCond .eq 9) := ⟨by decide +kernel, rfl⟩
set_option maxRecDepth 100000 in
theorem ii_ho_greaterPart_44 : sm_D prog_1_method_60_code 44 3 47 (.iinc 5 1) := ⟨by decide +kernel, rfl⟩
set_option maxRecDepth 100000 in
theorem ii_ho_greaterPart_47 : sm_D prog_1_method_60_code 47 3 50 (.goto 6) := ⟨by decide +kernel, rfl⟩
set_option maxRecDepth 100000 in
theorem ii_ho_greaterPart_50 : sm_D prog_1_method_60_code 50 3 53 (.iinc 6 1) := ⟨by decide +kernel, rfl⟩
set_option maxRecDepth 100000 in
theorem ii_ho_greaterPart_53 : sm_D prog_1_method_60_code 53 3 56 (.iinc 7 1) := ⟨by decide +kernel, rfl⟩
set_option maxRecDepth 100000 in
theorem ii_ho_greaterPart_56 : sm_D prog_1_method_60_code 56 3 59 (.goto (-47)) := ⟨by decide +kernel, rfl⟩
set_option maxRecDepth 100000 in
theorem ii_ho_greaterPart_59 : sm_D prog_1_method_60_code 59 2 61 (.iload 5) := ⟨by decide +kernel, rfl⟩
set_option maxRecDepth 100000 in
theorem ii_ho_greaterPart_61 : sm_D prog_1_method_60_code 61 2 63 (.iload 6) := ⟨by decide +kernel, rfl⟩
set_option maxRecDepth 100000 in
theorem ii_ho_greaterPart_63 : sm_D prog_1_method_60_code 63 3 66 (.invokestatic 356) := ⟨by decide +kernel, rfl⟩
set_option maxRecDepth 100000 in
theorem ii_ho_greaterPart_66 : sm_D prog_1_method_60_code 66 1 67 (.ireturn) := ⟨by decide +kernel, rfl⟩
noncomputable def ff_ho_greaterPart_9_b  (self9 : Int32 → Int32 → Int32 → Int32 → Int32 → Int32 → Int32 → sm_Mem → sm_R) (a1 : Int32) (a2 : Int32) (a3 : Int32) (a4 : Int32) (a5 : Int32) (a6 : Int32) (a7 : Int32) (w : sm_Mem) : sm_R := (if (6 : Int32) ≤ a7 then (some (.int (if a5 < a6 then a6 else a5), w)) else (if ((a2 >>> (a7 &&& (31 : Int32))) &&& (1 : Int32)) = (0 : Int32) then self9 (a1) (a2) (a3) (a4) (a5) (a6) ((a7 + (1 : Int32))) w else (sm_cI (ff_hs_isAble (a1) (a7) (a3) (a4) w) fun x1 w2 => (if x1 = (0 : Int32) then self9 (a1) (a2) (a3) (a4) (a5) ((a6 + (1 : Int32))) ((a7 + (1 : Int32))) w2 else self9 (a1) (a2) (a3) (a4) ((a5 + (1 : Int32))) (a6) ((a7 + (1 : Int32))) w2))))
noncomputable def ff_ho_greaterPart_9_f  : Nat → Int32 → Int32 → Int32 → Int32 → Int32 → Int32 → Int32 → sm_Mem → sm_R
  | 0, _, _, _, _, _, _, _, _ => none
  | n + 1, a1, a2, a3, a4, a5, a6, a7, w => ff_ho_greaterPart_9_b  (ff_ho_greaterPart_9_f  n) a1 a2 a3 a4 a5 a6 a7 w
noncomputable def ff_ho_greaterPart_9  (a1 : Int32) (a2 : Int32) (a3 : Int32) (a4 : Int32) (a5 : Int32) (a6 : Int32) (a7 : Int32) (w : sm_Mem) : sm_R := ff_ho_greaterPart_9_f  sm_N a1 a2 a3 a4 a5 a6 a7 w
set_option maxHeartbeats 4000000 in
set_option maxRecDepth 100000 in
theorem ss_ho_greaterPart_9_b {E : Nat × (Nat → Int32)}  (self9 : Int32 → Int32 → Int32 → Int32 → Int32 → Int32 → Int32 → sm_Mem → sm_R) (hself9 : ∀ (a1 : Int32) (a2 : Int32) (a3 : Int32) (a4 : Int32) (a5 : Int32) (a6 : Int32) (a7 : Int32) (w : sm_Mem), sm_Sim E (mi_ho_greaterPart) 9 [some (.ref 0), some (.int a1), some (.int a2), some (.int a3), some (.int a4), some (.int a5), some (.int a6), some (.int a7)] [] w (self9 a1 a2 a3 a4 a5 a6 a7 w)) (a1 : Int32) (a2 : Int32) (a3 : Int32) (a4 : Int32) (a5 : Int32) (a6 : Int32) (a7 : Int32) (w : sm_Mem) : sm_Sim E (mi_ho_greaterPart) 9 [some (.ref 0), some (.int a1), some (.int a2), some (.int a3), some (.int a4), some (.int a5), some (.int a6), some (.int a7)] [] w (ff_ho_greaterPart_9_b  self9 a1 a2 a3 a4 a5 a6 a7 w) := by
  unfold ff_ho_greaterPart_9_b
  refine sm_iload ii_ho_greaterPart_9 rfl ?_
  refine sm_bipush (6 : Int32) ii_ho_greaterPart_11 (by decide) ?_
  refine sm_icmp_ge 59 ii_ho_greaterPart_13 (by decide) ?_ ?_
  · refine sm_iload ii_ho_greaterPart_59 rfl ?_
    refine sm_iload ii_ho_greaterPart_61 rfl ?_
    refine sm_mmax ii_ho_greaterPart_63 mq_ho_356 mq_st_max mq_in mq_co_max (by decide) rfl ?_
    exact sm_iret ii_ho_greaterPart_66 rfl
  · refine sm_iload_n ii_ho_greaterPart_16 rfl ?_
    refine sm_iload ii_ho_greaterPart_17 rfl ?_
    refine sm_ishr ii_ho_greaterPart_19 ?_
    refine sm_iconst (1 : Int32) ii_ho_greaterPart_20 (by decide) ?_
    refine sm_iand ii_ho_greaterPart_21 ?_
    refine sm_if_ne 28 ii_ho_greaterPart_22 (by decide) ?_ ?_
    · refine sm_goto 53 ii_ho_greaterPart_25 (by decide) ?_
      refine sm_iinc (a7 + (1 : Int32)) [some (.ref 0), some (.int a1), some (.int a2), some (.int a3), some (.int a4), some (.int a5), some (.int a6), some (.int (a7 + (1 : Int32)))] ii_ho_greaterPart_53 rfl rfl rfl rfl ?_
      refine sm_goto 9 ii_ho_greaterPart_56 (by decide) ?_
      exact hself9 (a1) (a2) (a3) (a4) (a5) (a6) ((a7 + (1 : Int32))) w
    · refine sm_aload_n ii_ho_greaterPart_28 rfl ?_
      refine sm_getR 36 ii_ho_greaterPart_29 fl_ho_31 (k := 0) rfl ?_
      refine sm_iload_n ii_ho_greaterPart_32 rfl ?_
      refine sm_iload ii_ho_greaterPart_33 rfl ?_
      refine sm_iload_n ii_ho_greaterPart_35 rfl ?_
      refine sm_iload ii_ho_greaterPart_36 rfl ?_
      refine sm_cvI [.int a1, .int a7, .int a3, .int a4] [] rfl ii_ho_greaterPart_38 ml_ho_352 (mf_hs_isAble) (mv_hs_isAble) (Nat.le_of_ble_eq_true rfl) rfl 1 rfl rfl rfl rfl (mc_hs_isAble (a1) (a7) (a3) (a4) w) (fun x1 w2 => ?_)
      refine sm_if_eq 50 ii_ho_greaterPart_41 (by decide) ?_ ?_
      · refine sm_iinc (a6 + (1 : Int32)) [some (.ref 0), some (.int a1), some (.int a2), some (.int a3), some (.int a4), some (.int a5), some (.int (a6 + (1 : Int32))), some (.int a7)] ii_ho_greaterPart_50 rfl rfl rfl rfl ?_
        refine sm_iinc (a7 + (1 : Int32)) [some (.ref 0), some (.int a1), some (.int a2), some (.int a3), some (.int a4), some (.int a5), some (.int (a6 + (1 : Int32))), some (.int (a7 + (1 : Int32)))] ii_ho_greaterPart_53 rfl rfl rfl rfl ?_
        refine sm_goto 9 ii_ho_greaterPart_56 (by decide) ?_
        exact hself9 (a1) (a2) (a3) (a4) (a5) ((a6 + (1 : Int32))) ((a7 + (1 : Int32))) w2
      · refine sm_iinc (a5 + (1 : Int32)) [some (.ref 0), some (.int a1), some (.int a2), some (.int a3), some (.int a4), some (.int (a5 + (1 : Int32))), some (.int a6), some (.int a7)] ii_ho_greaterPart_44 rfl rfl rfl rfl ?_
        refine sm_goto 53 ii_ho_greaterPart_47 (by decide) ?_
        refine sm_iinc (a7 + (1 : Int32)) [some (.ref 0), some (.int a1), some (.int a2), some (.int a3), some (.int a4), some (.int (a5 + (1 : Int32))), some (.int a6), some (.int (a7 + (1 : Int32)))] ii_ho_greaterPart_53 rfl rfl rfl rfl ?_
        refine sm_goto 9 ii_ho_greaterPart_56 (by decide) ?_
        exact hself9 (a1) (a2) (a3) (a4) ((a5 + (1 : Int32))) (a6) ((a7 + (1 : Int32))) w2
set_option maxHeartbeats 4000000 in
set_option maxRecDepth 100000 in
theorem ss_ho_greaterPart_9_f {E : Nat × (Nat → Int32)}  : ∀ (n : Nat) (a1 : Int32) (a2 : Int32) (a3 : Int32) (a4 : Int32) (a5 : Int32) (a6 : Int32) (a7 : Int32) (w : sm_Mem), sm_Sim E (mi_ho_greaterPart) 9 [some (.ref 0), some (.int a1), some (.int a2), some (.int a3), some (.int a4), some (.int a5), some (.int a6), some (.int a7)] [] w (ff_ho_greaterPart_9_f  n a1 a2 a3 a4 a5 a6 a7 w)
  | 0, _, _, _, _, _, _, _, _ => fun _ _ h => by cases h
  | n + 1, a1, a2, a3, a4, a5, a6, a7, w => ss_ho_greaterPart_9_b  _ (ss_ho_greaterPart_9_f  n) a1 a2 a3 a4 a5 a6 a7 w
set_option maxHeartbeats 4000000 in
set_option maxRecDepth 100000 in
theorem ss_ho_greaterPart_9 {E : Nat × (Nat → Int32)}  (a1 : Int32) (a2 : Int32) (a3 : Int32) (a4 : Int32) (a5 : Int32) (a6 : Int32) (a7 : Int32) (w : sm_Mem) : sm_Sim E (mi_ho_greaterPart) 9 [some (.ref 0), some (.int a1), some (.int a2), some (.int a3), some (.int a4), some (.int a5), some (.int a6), some (.int a7)] [] w (ff_ho_greaterPart_9  a1 a2 a3 a4 a5 a6 a7 w) := ss_ho_greaterPart_9_f  sm_N a1 a2 a3 a4 a5 a6 a7 w
noncomputable def ff_ho_greaterPart  (a1 : Int32) (a2 : Int32) (a3 : Int32) (a4 : Int32) (w : sm_Mem) : sm_R := ff_ho_greaterPart_9 (a1) (a2) (a3) (a4) ((0 : Int32)) ((0 : Int32)) ((0 : Int32)) w
set_option maxHeartbeats 4000000 in
set_option maxRecDepth 100000 in
theorem ss_ho_greaterPart_0 {E : Nat × (Nat → Int32)}  (a1 : Int32) (a2 : Int32) (a3 : Int32) (a4 : Int32) (w : sm_Mem) : sm_Sim E (mi_ho_greaterPart) 0 [some (.ref 0), some (.int a1), some (.int a2), some (.int a3), some (.int a4), none, none, none] [] w (ff_ho_greaterPart  a1 a2 a3 a4 w) := by
  unfold ff_ho_greaterPart
  refine sm_iconst (0 : Int32) ii_ho_greaterPart_0 (by decide) ?_
  refine sm_istore [some (.ref 0), some (.int a1), some (.int a2), some (.int a3), some (.int a4), some (.int (0 : Int32)), none, none] ii_ho_greaterPart_1 rfl rfl ?_
  refine sm_iconst (0 : Int32) ii_ho_greaterPart_3 (by decide) ?_
  refine sm_istore [some (.ref 0), some (.int a1), some (.int a2), some (.int a3), some (.int a4), some (.int (0 : Int32)), some (.int (0 : Int32)), none] ii_ho_greaterPart_4 rfl rfl ?_
  refine sm_iconst (0 : Int32) ii_ho_greaterPart_6 (by decide) ?_
  refine sm_istore [some (.ref 0), some (.int a1), some (.int a2), some (.int a3), some (.int a4), some (.int (0 : Int32)), some (.int (0 : Int32)), some (.int (0 : Int32))] ii_ho_greaterPart_7 rfl rfl ?_
  exact ss_ho_greaterPart_9 (a1) (a2) (a3) (a4) ((0 : Int32)) ((0 : Int32)) ((0 : Int32)) w
set_option maxHeartbeats 4000000 in
set_option maxRecDepth 100000 in
theorem mc_ho_greaterPart (a1 : Int32) (a2 : Int32) (a3 : Int32) (a4 : Int32) (w : sm_Mem) : sm_MC mi_ho_greaterPart [.ref 0, .int a1, .int a2, .int a3, .int a4] w (ff_ho_greaterPart a1 a2 a3 a4 w) := sm_MC_of (0, fun _ => 0) (by decide +kernel) (by decide) rfl (Nat.le_of_ble_eq_true rfl) (ss_ho_greaterPart_0 a1 a2 a3 a4 w)
