/-! the program, by a program: functions of its methods and that the methods do them -/
set_option maxRecDepth 100000 in
theorem ml_tr_55 : sm_ML "HerOrders$Trials" 55 ⟨"HerOrders$House", "isFree", "(I)Z"⟩ := Or.inr ⟨"HerOrders", List.mem_of_getElem? (i := 598) (by decide +kernel)⟩
set_option maxRecDepth 100000 in
theorem ml_tr_48 : sm_ML "HerOrders$Trials" 48 ⟨"HerOrders$Trials", "freeTurns", "(I)I"⟩ := Or.inl (List.mem_of_getElem? (i := 594) (by decide +kernel))
set_option maxRecDepth 100000 in
theorem mq_tr_59 : Cond.methodLink "HerOrders$Trials" 59 Lib.Math.max.name ∈ lw_tbl := List.mem_of_getElem? (i := 599) (by decide +kernel)
set_option maxRecDepth 100000 in
theorem fl_tr_19 : sm_FL "HerOrders$Trials" 19 4 2 := ⟨RX4, TX4, 5, rfl, by decide, rfl, sm_inX4, Or.inl (List.mem_of_getElem? (i := 262) (by decide +kernel))⟩
set_option maxRecDepth 100000 in
theorem fp_tr_45 : sm_FP "HerOrders$Trials" 45 4 3 .int := ⟨RX4, TX4, 5, tyX4, rfl, by decide, rfl, sm_inX4, tyX4_ok, nmX4, rfl, by decide +kernel, Or.inl (List.mem_of_getElem? (i := 264) (by decide +kernel))⟩
set_option maxRecDepth 100000 in
theorem ml_tr_52 : sm_ML "HerOrders$Trials" 52 ⟨"HerOrders$Trials", "lengthen", "(II)V"⟩ := Or.inl (List.mem_of_getElem? (i := 600) (by decide +kernel))
set_option maxRecDepth 100000 in
theorem fl_tr_45 : sm_FL "HerOrders$Trials" 45 4 3 := ⟨RX4, TX4, 5, rfl, by decide, rfl, sm_inX4, Or.inl (List.mem_of_getElem? (i := 264) (by decide +kernel))⟩
set_option maxRecDepth 100000 in
theorem ml_tr_65 : sm_ML "HerOrders$Trials" 65 ⟨"HerOrders$Trials", "keepBest", "(I)V"⟩ := Or.inl (List.mem_of_getElem? (i := 604) (by decide +kernel))
set_option maxRecDepth 100000 in
theorem ml_ho_231 : sm_ML "HerOrders" 231 ⟨"HerOrders$Trials", "seekLongest", "()V"⟩ := Or.inr ⟨"HerOrders", List.mem_of_getElem? (i := 590) (by decide +kernel)⟩
set_option maxRecDepth 100000 in
theorem fl_ho_234 : sm_FL "HerOrders" 234 4 2 := ⟨RX4, TX4, 5, rfl, by decide, rfl, sm_inX4, Or.inr ⟨"HerOrders", List.mem_of_getElem? (i := 263) (by decide +kernel)⟩⟩
set_option maxRecDepth 100000 in
theorem fl_ho_237 : sm_FL "HerOrders" 237 4 3 := ⟨RX4, TX4, 5, rfl, by decide, rfl, sm_inX4, Or.inr ⟨"HerOrders", List.mem_of_getElem? (i := 265) (by decide +kernel)⟩⟩
set_option maxRecDepth 100000 in
theorem ml_ho_328 : sm_ML "HerOrders" 328 ⟨"HerOrders$Row", "isOfPairs", "()Z"⟩ := Or.inr ⟨"HerOrders", List.mem_of_getElem? (i := 616) (by decide +kernel)⟩
set_option maxRecDepth 100000 in
theorem ml_ho_240 : sm_ML "HerOrders" 240 ⟨"HerOrders", "refusalOfPairs", "(I)I"⟩ := Or.inl (List.mem_of_getElem? (i := 612) (by decide +kernel))
set_option maxRecDepth 100000 in
theorem ml_ho_243 : sm_ML "HerOrders" 243 ⟨"HerOrders$Ways", "runPairs", "(LHerOrders$Row;)V"⟩ := Or.inr ⟨"HerOrders", List.mem_of_getElem? (i := 620) (by decide +kernel)⟩
set_option maxRecDepth 100000 in
theorem fl_ho_246 : sm_FL "HerOrders" 246 5 9 := ⟨RX5, TX5, 14, rfl, by decide, rfl, sm_inX5, Or.inr ⟨"HerOrders", List.mem_of_getElem? (i := 218) (by decide +kernel)⟩⟩
set_option maxRecDepth 100000 in
theorem ml_ho_249 : sm_ML "HerOrders" 249 ⟨"HerOrders$House", "allSpeakers", "()I"⟩ := Or.inr ⟨"HerOrders", List.mem_of_getElem? (i := 628) (by decide +kernel)⟩
set_option maxRecDepth 100000 in
theorem fl_ho_252 : sm_FL "HerOrders" 252 5 11 := ⟨RX5, TX5, 14, rfl, by decide, rfl, sm_inX5, Or.inr ⟨"HerOrders", List.mem_of_getElem? (i := 221) (by decide +kernel)⟩⟩
set_option maxRecDepth 100000 in
theorem ml_ho_331 : sm_ML "HerOrders" 331 ⟨"HerOrders$Row", "isOfTriples", "()Z"⟩ := Or.inr ⟨"HerOrders", List.mem_of_getElem? (i := 640) (by decide +kernel)⟩
set_option maxRecDepth 100000 in
theorem ml_ho_352 : sm_ML "HerOrders" 352 ⟨"HerOrders$House", "isAble", "(IIII)Z"⟩ := Or.inr ⟨"HerOrders", List.mem_of_getElem? (i := 652) (by decide +kernel)⟩
set_option maxRecDepth 100000 in
theorem ml_ho_348 : sm_ML "HerOrders" 348 ⟨"HerOrders", "fits", "(IILHerOrders$Row;)Z"⟩ := Or.inl (List.mem_of_getElem? (i := 648) (by decide +kernel))
set_option maxRecDepth 100000 in
theorem ml_ho_255 : sm_ML "HerOrders" 255 ⟨"HerOrders", "refusalOfTriples", "(II)I"⟩ := Or.inl (List.mem_of_getElem? (i := 636) (by decide +kernel))
set_option maxRecDepth 100000 in
theorem ml_ho_258 : sm_ML "HerOrders" 258 ⟨"HerOrders", "kindsBy", "(ILHerOrders$Row;)I"⟩ := Or.inl (List.mem_of_getElem? (i := 644) (by decide +kernel))
set_option maxRecDepth 100000 in
theorem mq_ho_356 : Cond.methodLink "HerOrders" 356 Lib.Math.max.name ∈ lw_tbl := List.mem_of_getElem? (i := 661) (by decide +kernel)
set_option maxRecDepth 100000 in
theorem ml_ho_262 : sm_ML "HerOrders" 262 ⟨"HerOrders", "greaterPart", "(IIII)I"⟩ := Or.inl (List.mem_of_getElem? (i := 657) (by decide +kernel))
set_option maxRecDepth 100000 in
theorem ml_ho_266 : sm_ML "HerOrders" 266 ⟨"HerOrders$House", "invite", "(I)V"⟩ := Or.inr ⟨"HerOrders", List.mem_of_getElem? (i := 666) (by decide +kernel)⟩
set_option maxRecDepth 100000 in
theorem ml_ho_269 : sm_ML "HerOrders" 269 ⟨"HerOrders$House", "dismiss", "()V"⟩ := Or.inr ⟨"HerOrders", List.mem_of_getElem? (i := 670) (by decide +kernel)⟩
set_option maxRecDepth 100000 in
theorem fl_ho_272 : sm_FL "HerOrders" 272 5 13 := ⟨RX5, TX5, 14, rfl, by decide, rfl, sm_inX5, Or.inr ⟨"HerOrders", List.mem_of_getElem? (i := 224) (by decide +kernel)⟩⟩
set_option maxRecDepth 100000 in
theorem ml_ho_144 : sm_ML "HerOrders" 144 ⟨"java/lang/Integer", "bitCount", "(I)I"⟩ := Or.inl (List.mem_of_getElem? (i := 674) (by decide +kernel))
abbrev mi_tr_freeTurns (k : Nat) : sm_MI := (⟨"HerOrders$Trials", "freeTurns", "(I)I"⟩, prog_6_method_5_code, 4, (some .int), k)
set_option maxRecDepth 100000 in
theorem mf_tr_freeTurns_z : sm_MF (mi_tr_freeTurns 0) 1 := ⟨List.mem_of_getElem? (i := 597) (by decide +kernel), List.mem_of_getElem? (i := 75) (by decide +kernel), ⟨by decide, by decide⟩, by decide +kernel⟩
set_option maxRecDepth 100000 in
theorem mf_tr_freeTurns (k : Nat) : sm_MF (mi_tr_freeTurns k) 1 := mf_tr_freeTurns_z
set_option maxRecDepth 100000 in
theorem mv_tr_freeTurns_z : sm_MFV (mi_tr_freeTurns 0) := ⟨List.mem_of_getElem? (i := 596) (by decide +kernel), List.mem_of_getElem? (i := 37) (by decide +kernel)⟩
set_option maxRecDepth 100000 in
theorem mv_tr_freeTurns (k : Nat) : sm_MFV (mi_tr_freeTurns k) := mv_tr_freeTurns_z
set_option maxRecDepth 100000 in
theorem ii_tr_freeTurns_0 : sm_D prog_6_method_5_code 0 1 1 (.iload_n 1) := ⟨by decide +kernel, rfl⟩
set_option maxRecDepth 100000 in
theorem ii_tr_freeTurns_1 : sm_D prog_6_method_5_code 1 1 2 (.istore_n 2) := ⟨by decide +kernel, rfl⟩
set_option maxRecDepth 100000 in
theorem ii_tr_freeTurns_2 : sm_D prog_6_method_5_code 2 1 3 (.iconst 0) := ⟨by decide +kernel, rfl⟩
set_option maxRecDepth 100000 in
theorem ii_tr_freeTurns_3 : sm_D prog_6_method_5_code 3 1 4 (.istore_n 3) := ⟨by decide +kernel, rfl⟩
set_option maxRecDepth 100000 in
theorem ii_tr_freeTurns_4 : sm_D prog_6_method_5_code 4 1 5 (.iload_n 3) := ⟨by decide +kernel, rfl⟩
set_option maxRecDepth 100000 in
theorem ii_tr_freeTurns_5 : sm_D prog_6_method_5_code 5 1 6 (.aload_n 0) := ⟨by decide +kernel, rfl⟩
set_option maxRecDepth 100000 in
theorem ii_tr_freeTurns_6 : sm_D prog_6_method_5_code 6 3 9 (.getfield 9) := ⟨by decide +kernel, rfl⟩
set_option maxRecDepth 100000 in
theorem ii_tr_freeTurns_9 : sm_D prog_6_method_5_code 9 3 12 (.getfield 29) := ⟨by decide +kernel, rfl⟩
set_option maxRecDepth 100000 in
theorem ii_tr_freeTurns_12 : sm_D prog_6_method_5_code 12 3 15 (.if_icmp .ge 61) := ⟨by decide +kernel, rfl⟩
set_option maxRecDepth 100000 in
theorem ii_tr_freeTurns_15 : sm_D prog_6_method_5_code 15 1 16 (.iload_n 1) := ⟨by decide +kernel, rfl⟩
set_option maxRecDepth 100000 in
theorem ii_tr_freeTurns_16 : sm_D prog_6_method_5_code 16 1 17 (.iconst 4) := ⟨by decide +kernel, rfl⟩
set_option maxRecDepth 100000 in
theorem ii_tr_freeTurns_17 : sm_D prog_6_method_5_code 17 3 20 (.if_icmp .ge 56) := ⟨by decide +kernel, rfl⟩
set_option maxRecDepth 100000 in
theorem ii_tr_freeTurns_20 : sm_D prog_6_method_5_code 20 1 21 (.iload_n 2) := ⟨by decide +kernel, rfl⟩
set_option maxRecDepth 100000 in
theorem ii_tr_freeTurns_21 : sm_D prog_6_method_5_code 21 1 22 (.iconst 4) := ⟨by decide +kernel, rfl⟩
set_option maxRecDepth 100000 in
theorem ii_tr_freeTurns_22 : sm_D prog_6_method_5_code 22 3 25 (.if_icmp .ge 51) := ⟨by decide +kernel, rfl⟩
set_option maxRecDepth 100000 in
theorem ii_tr_freeTurns_25 : sm_D prog_6_method_5_code 25 1 26 (.aload_n 0) := ⟨by decide +kernel, rfl⟩
set_option maxRecDepth 100000 in
theorem ii_tr_freeTurns_26 : sm_D prog_6_method_5_code 26 3 29 (.getfield 9) := ⟨by decide +kernel, rfl⟩
set_option maxRecDepth 100000 in
theorem ii_tr_freeTurns_29 : sm_D prog_6_method_5_code 29 1 30 (.iload_n 3) := ⟨by decide +kernel, rfl⟩
set_option maxRecDepth 100000 in
theorem ii_tr_freeTurns_30 : sm_D prog_6_method_5_code 30 3 33 (.invokevirtual 55) := ⟨by decide +kernel, rfl⟩
set_option maxRecDepth 100000 in
theorem ii_tr_freeTurns_33 : sm_D prog_6_method_5_code 33 3 36 (.ifCond .ne 6) := ⟨by decide +kernel, rfl⟩
set_option maxRecDepth 100000 in
theorem ii_tr_freeTurns_36 : sm_D prog_6_method_5_code 36 3 39 (.goto 31) := ⟨by decide +kernel, rfl⟩
set_option maxRecDepth 100000 in
theorem ii_tr_freeTurns_39 : sm_D prog_6_method_5_code 39 1 40 (.aload_n 0) := ⟨by decide +kernel, rfl⟩
set_option maxRecDepth 100000 in
theorem ii_tr_freeTurns_40 : sm_D prog_6_method_5_code 40 3 43 (.getfield 9) := ⟨by decide +kernel, rfl⟩
set_option maxRecDepth 100000 in
theorem ii_tr_freeTurns_43 : sm_D prog_6_method_5_code 43 1 44 (.iload_n 3) := ⟨by decide +kernel, rfl⟩
set_option maxRecDepth 100000 in
theorem ii_tr_freeTurns_44 : sm_D prog_6_method_5_code 44 1 45 (.iconst 0) := ⟨by decide +kernel, rfl⟩
set_option maxRecDepth 100000 in
theorem ii_tr_freeTurns_45 : sm_D prog_6_method_5_code 45 3 48 (.invokevirtual 38) := ⟨by decide +kernel, rfl⟩
set_option maxRecDepth 100000 in
theorem ii_tr_freeTurns_48 : sm_D prog_6_method_5_code 48 1 49 (.iload_n 2) := ⟨by decide +kernel, rfl⟩
set_option maxRecDepth 100000 in
theorem ii_tr_freeTurns_49 : sm_D prog_6_method_5_code 49 1 50 (.aload_n 0) := ⟨by decide +kernel, rfl⟩
set_option maxRecDepth 100000 in
theorem ii_tr_freeTurns_50 : sm_D prog_6_method_5_code 50 1 51 (.iload_n 1) := ⟨by decide +kernel, rfl⟩
set_option maxRecDepth 100000 in
theorem ii_tr_freeTurns_51 : sm_D prog_6_method_5_code 51 1 52 (.iconst 1) := ⟨by decide +kernel, rfl⟩
set_option maxRecDepth 100000 in
theorem ii_tr_freeTurns_52 : sm_D prog_6_method_5_code 52 1 53 (.iadd) := ⟨by decide +kernel, rfl⟩
set_option maxRecDepth 100000 in
theorem ii_tr_freeTurns_53 : sm_D prog_6_method_5_code 53 3 56 (.invokevirtual 48) := ⟨by decide +kernel, rfl⟩
set_option maxRecDepth 100000 in
theorem ii_tr_freeTurns_56 : sm_D prog_6_method_5_code 56 3 59 (.invokestatic 59) := ⟨by decide +kernel, rfl⟩
set_option maxRecDepth 100000 in
theorem ii_tr_freeTurns_59 : sm_D prog_6_method_5_code 59 1 60 (.istore_n 2) := ⟨by decide +kernel, rfl⟩
set_option maxRecDepth 100000 in
theorem ii_tr_freeTurns_60 : sm_D prog_6_method_5_code 60 1 61 (.aload_n 0) := ⟨by decide +kernel, rfl⟩
set_option maxRecDepth 100000 in
theorem ii_tr_freeTurns_61 : sm_D prog_6_method_5_code 61 3 64 (.getfield 9) := ⟨by decide +kernel, rfl⟩
set_option maxRecDepth 100000 in
theorem ii_tr_freeTurns_64 : sm_D prog_6_method_5_code 64 3 67 (.invokevirtual 42) := ⟨by decide +kernel, rfl⟩
set_option maxRecDepth 100000 in
theorem ii_tr_freeTurns_67 : sm_D prog_6_method_5_code 67 3 70 (.iinc 3 1) := ⟨by decide +kernel, rfl⟩
set_option maxRecDepth 100000 in
theorem ii_tr_freeTurns_70 : sm_D prog_6_method_5_code 70 3 73 (.goto (-66)) := ⟨by decide +kernel, rfl⟩
set_option maxRecDepth 100000 in
theorem ii_tr_freeTurns_73 : sm_D prog_6_method_5_code 73 1 74 (.iload_n 2) := ⟨by decide +kernel, rfl⟩
set_option maxRecDepth 100000 in
theorem ii_tr_freeTurns_74 : sm_D prog_6_method_5_code 74 1 75 (.ireturn) := ⟨by decide +kernel, rfl⟩
noncomputable def ff_tr_freeTurns_4_b (rc : Int32 → sm_Mem → sm_R)  (self4 : Int32 → Int32 → Int32 → sm_Mem → sm_R) (a1 : Int32) (a2 : Int32) (a3 : Int32) (w : sm_Mem) : sm_R := (if (w.1 36 0) ≤ a3 then (some (.int a2, w)) else (if (4 : Int32) ≤ a1 then (some (.int a2, w)) else (if (4 : Int32) ≤ a2 then (some (.int a2, w)) else (sm_cI (ff_hs_isFree (a3) w) fun x1 w2 => (if x1 = (0 : Int32) then self4 (a1) (a2) ((a3 + (1 : Int32))) w2 else (sm_cV (ff_hs_push (a3) ((0 : Int32)) w2) fun w4 => (sm_cI (rc ((a1 + (1 : Int32))) w4) fun x5 w6 => (sm_cV (ff_hs_pop  w6) fun w8 => self4 (a1) ((if a2 < x5 then x5 else a2)) ((a3 + (1 : Int32))) w8))))))))
noncomputable def ff_tr_freeTurns_4_f (rc : Int32 → sm_Mem → sm_R)  : Nat → Int32 → Int32 → Int32 → sm_Mem → sm_R
  | 0, _, _, _, _ => none
  | n + 1, a1, a2, a3, w => ff_tr_freeTurns_4_b rc  (ff_tr_freeTurns_4_f rc  n) a1 a2 a3 w
noncomputable def ff_tr_freeTurns_4 (rc : Int32 → sm_Mem → sm_R)  (a1 : Int32) (a2 : Int32) (a3 : Int32) (w : sm_Mem) : sm_R := ff_tr_freeTurns_4_f rc  sm_N a1 a2 a3 w
set_option maxHeartbeats 4000000 in
set_option maxRecDepth 100000 in
theorem ss_tr_freeTurns_4_b {E : Nat × (Nat → Int32)} {dn : Nat} (rc : Int32 → sm_Mem → sm_R) (hrc : ∀ (a1 : Int32) (w : sm_Mem), sm_MC E (mi_tr_freeTurns (2 + dn)) [.ref 56, .int a1] w (rc a1 w))  (self4 : Int32 → Int32 → Int32 → sm_Mem → sm_R) (hself4 : ∀ (a1 : Int32) (a2 : Int32) (a3 : Int32) (w : sm_Mem), sm_Sim E (mi_tr_freeTurns (2 + dn + 1)) 4 [some (.ref 56), some (.int a1), some (.int a2), some (.int a3)] [] w (self4 a1 a2 a3 w)) (a1 : Int32) (a2 : Int32) (a3 : Int32) (w : sm_Mem) : sm_Sim E (mi_tr_freeTurns (2 + dn + 1)) 4 [some (.ref 56), some (.int a1), some (.int a2), some (.int a3)] [] w (ff_tr_freeTurns_4_b rc  self4 a1 a2 a3 w) := by
  unfold ff_tr_freeTurns_4_b
  refine sm_iload_n ii_tr_freeTurns_4 rfl ?_
  refine sm_aload_n ii_tr_freeTurns_5 rfl ?_
  refine sm_getR 36 ii_tr_freeTurns_6 fl_tr_9 (k := 56) rfl ?_
  refine sm_getI ii_tr_freeTurns_9 fl_tr_29 (k := 36) rfl ?_
  refine sm_icmp_ge 73 ii_tr_freeTurns_12 (by decide) ?_ ?_
  · refine sm_iload_n ii_tr_freeTurns_73 rfl ?_
    exact sm_iret ii_tr_freeTurns_74 rfl
  · refine sm_iload_n ii_tr_freeTurns_15 rfl ?_
    refine sm_iconst (4 : Int32) ii_tr_freeTurns_16 (by decide) ?_
    refine sm_icmp_ge 73 ii_tr_freeTurns_17 (by decide) ?_ ?_
    · refine sm_iload_n ii_tr_freeTurns_73 rfl ?_
      exact sm_iret ii_tr_freeTurns_74 rfl
    · refine sm_iload_n ii_tr_freeTurns_20 rfl ?_
      refine sm_iconst (4 : Int32) ii_tr_freeTurns_21 (by decide) ?_
      refine sm_icmp_ge 73 ii_tr_freeTurns_22 (by decide) ?_ ?_
      · refine sm_iload_n ii_tr_freeTurns_73 rfl ?_
        exact sm_iret ii_tr_freeTurns_74 rfl
      · refine sm_aload_n ii_tr_freeTurns_25 rfl ?_
        refine sm_getR 36 ii_tr_freeTurns_26 fl_tr_9 (k := 56) rfl ?_
        refine sm_iload_n ii_tr_freeTurns_29 rfl ?_
        refine sm_cvI [.int a3] [] rfl ii_tr_freeTurns_30 ml_tr_55 (mf_hs_isFree) (mv_hs_isFree) (sm_kle rfl) rfl 1 rfl rfl rfl rfl (mc_hs_isFree (a3) w) (fun x1 w2 => ?_)
        refine sm_if_ne 39 ii_tr_freeTurns_33 (by decide) ?_ ?_
        · refine sm_goto 67 ii_tr_freeTurns_36 (by decide) ?_
          refine sm_iinc (a3 + (1 : Int32)) [some (.ref 56), some (.int a1), some (.int a2), some (.int (a3 + (1 : Int32)))] ii_tr_freeTurns_67 rfl rfl rfl rfl ?_
          refine sm_goto 4 ii_tr_freeTurns_70 (by decide) ?_
          exact hself4 (a1) (a2) ((a3 + (1 : Int32))) w2
        · refine sm_aload_n ii_tr_freeTurns_39 rfl ?_
          refine sm_getR 36 ii_tr_freeTurns_40 fl_tr_9 (k := 56) rfl ?_
          refine sm_iload_n ii_tr_freeTurns_43 rfl ?_
          refine sm_iconst (0 : Int32) ii_tr_freeTurns_44 (by decide) ?_
          refine sm_cvV [.int a3, .int (0 : Int32)] [] rfl ii_tr_freeTurns_45 ml_tr_38 (mf_hs_push) (mv_hs_push) (sm_kle rfl) rfl 1 rfl rfl rfl rfl (mc_hs_push (a3) ((0 : Int32)) w2) (fun w4 => ?_)
          refine sm_iload_n ii_tr_freeTurns_48 rfl ?_
          refine sm_aload_n ii_tr_freeTurns_49 rfl ?_
          refine sm_iload_n ii_tr_freeTurns_50 rfl ?_
          refine sm_iconst (1 : Int32) ii_tr_freeTurns_51 (by decide) ?_
          refine sm_iadd ii_tr_freeTurns_52 ?_
          refine sm_cvI [.int (a1 + (1 : Int32))] [.int a2] rfl ii_tr_freeTurns_53 ml_tr_48 (mf_tr_freeTurns (2 + dn)) (mv_tr_freeTurns (2 + dn)) (Nat.le_refl _) rfl 4 rfl rfl rfl rfl (hrc ((a1 + (1 : Int32))) w4) (fun x5 w6 => ?_)
          refine sm_mmax ii_tr_freeTurns_56 mq_tr_59 mq_st_max mq_in mq_co_max (Nat.le_add_left 1 _) rfl ?_
          refine sm_istore_n [some (.ref 56), some (.int a1), some (.int (if a2 < x5 then x5 else a2)), some (.int a3)] ii_tr_freeTurns_59 rfl rfl ?_
          refine sm_aload_n ii_tr_freeTurns_60 rfl ?_
          refine sm_getR 36 ii_tr_freeTurns_61 fl_tr_9 (k := 56) rfl ?_
          refine sm_cvV [] [] rfl ii_tr_freeTurns_64 ml_tr_42 (mf_hs_pop) (mv_hs_pop) (sm_kle rfl) rfl 1 rfl rfl rfl rfl (mc_hs_pop  w6) (fun w8 => ?_)
          refine sm_iinc (a3 + (1 : Int32)) [some (.ref 56), some (.int a1), some (.int (if a2 < x5 then x5 else a2)), some (.int (a3 + (1 : Int32)))] ii_tr_freeTurns_67 rfl rfl rfl rfl ?_
          refine sm_goto 4 ii_tr_freeTurns_70 (by decide) ?_
          exact hself4 (a1) ((if a2 < x5 then x5 else a2)) ((a3 + (1 : Int32))) w8
set_option maxHeartbeats 4000000 in
set_option maxRecDepth 100000 in
theorem ss_tr_freeTurns_4_f {E : Nat × (Nat → Int32)} {dn : Nat} (rc : Int32 → sm_Mem → sm_R) (hrc : ∀ (a1 : Int32) (w : sm_Mem), sm_MC E (mi_tr_freeTurns (2 + dn)) [.ref 56, .int a1] w (rc a1 w))  : ∀ (n : Nat) (a1 : Int32) (a2 : Int32) (a3 : Int32) (w : sm_Mem), sm_Sim E (mi_tr_freeTurns (2 + dn + 1)) 4 [some (.ref 56), some (.int a1), some (.int a2), some (.int a3)] [] w (ff_tr_freeTurns_4_f rc  n a1 a2 a3 w)
  | 0, _, _, _, _ => fun _ _ h => by cases h
  | n + 1, a1, a2, a3, w => ss_tr_freeTurns_4_b rc hrc  _ (ss_tr_freeTurns_4_f rc hrc  n) a1 a2 a3 w
set_option maxHeartbeats 4000000 in
set_option maxRecDepth 100000 in
theorem ss_tr_freeTurns_4 {E : Nat × (Nat → Int32)} {dn : Nat} (rc : Int32 → sm_Mem → sm_R) (hrc : ∀ (a1 : Int32) (w : sm_Mem), sm_MC E (mi_tr_freeTurns (2 + dn)) [.ref 56, .int a1] w (rc a1 w))  (a1 : Int32) (a2 : Int32) (a3 : Int32) (w : sm_Mem) : sm_Sim E (mi_tr_freeTurns (2 + dn + 1)) 4 [some (.ref 56), some (.int a1), some (.int a2), some (.int a3)] [] w (ff_tr_freeTurns_4 rc  a1 a2 a3 w) := ss_tr_freeTurns_4_f rc hrc  sm_N a1 a2 a3 w
noncomputable def ff_tr_freeTurns_0 (rc : Int32 → sm_Mem → sm_R)  (a1 : Int32) (w : sm_Mem) : sm_R := ff_tr_freeTurns_4 rc (a1) (a1) ((0 : Int32)) w
set_option maxHeartbeats 4000000 in
set_option maxRecDepth 100000 in
theorem ss_tr_freeTurns_0 {E : Nat × (Nat → Int32)} {dn : Nat} (rc : Int32 → sm_Mem → sm_R) (hrc : ∀ (a1 : Int32) (w : sm_Mem), sm_MC E (mi_tr_freeTurns (2 + dn)) [.ref 56, .int a1] w (rc a1 w))  (a1 : Int32) (w : sm_Mem) : sm_Sim E (mi_tr_freeTurns (2 + dn + 1)) 0 [some (.ref 56), some (.int a1), none, none] [] w (ff_tr_freeTurns_0 rc  a1 w) := by
  unfold ff_tr_freeTurns_0
  refine sm_iload_n ii_tr_freeTurns_0 rfl ?_
  refine sm_istore_n [some (.ref 56), some (.int a1), some (.int a1), none] ii_tr_freeTurns_1 rfl rfl ?_
  refine sm_iconst (0 : Int32) ii_tr_freeTurns_2 (by decide) ?_
  refine sm_istore_n [some (.ref 56), some (.int a1), some (.int a1), some (.int (0 : Int32))] ii_tr_freeTurns_3 rfl rfl ?_
  exact ss_tr_freeTurns_4 rc hrc (a1) (a1) ((0 : Int32)) w
noncomputable def ff_tr_freeTurns : Nat → Int32 → sm_Mem → sm_R
  | 0, _, _ => none
  | n + 1, a1, w => ff_tr_freeTurns_0 (ff_tr_freeTurns n) a1 w
set_option maxHeartbeats 4000000 in
set_option maxRecDepth 100000 in
theorem mc_tr_freeTurns {E : Nat × (Nat → Int32)} : ∀ (n : Nat) (a1 : Int32) (w : sm_Mem), sm_MC E (mi_tr_freeTurns (2 + n)) [.ref 56, .int a1] w (ff_tr_freeTurns n a1 w)
  | 0, _, _ => fun _ _ h => by cases h
  | n + 1, a1, w => sm_MC_of E (show plainName "HerOrders$Trials" = true by decide +kernel) rfl (Nat.le_of_ble_eq_true rfl) (ss_tr_freeTurns_0 (dn := n) _ (mc_tr_freeTurns n) a1 w)
abbrev mi_tr_keepBest : sm_MI := (⟨"HerOrders$Trials", "keepBest", "(I)V"⟩, prog_6_method_7_code, 3, none, 1)
set_option maxRecDepth 100000 in
theorem mf_tr_keepBest : sm_MF mi_tr_keepBest 1 := ⟨List.mem_of_getElem? (i := 607) (by decide +kernel), List.mem_of_getElem? (i := 75) (by decide +kernel), ⟨by decide, by decide⟩, by decide +kernel⟩
set_option maxRecDepth 100000 in
theorem mv_tr_keepBest : sm_MFV mi_tr_keepBest := ⟨List.mem_of_getElem? (i := 606) (by decide +kernel), List.mem_of_getElem? (i := 39) (by decide +kernel)⟩
set_option maxRecDepth 100000 in
theorem ii_tr_keepBest_0 : sm_D prog_6_method_7_code 0 1 1 (.aload_n 0) := ⟨by decide +kernel, rfl⟩
set_option maxRecDepth 100000 in
theorem ii_tr_keepBest_1 : sm_D prog_6_method_7_code 1 1 2 (.iload_n 1) := ⟨by decide +kernel, rfl⟩
set_option maxRecDepth 100000 in
theorem ii_tr_keepBest_2 : sm_D prog_6_method_7_code 2 3 5 (.putfield 45) := ⟨by decide +kernel, rfl⟩
set_option maxRecDepth 100000 in
theorem ii_tr_keepBest_5 : sm_D prog_6_method_7_code 5 1 6 (.iconst 0) := ⟨by decide +kernel, rfl⟩
set_option maxRecDepth 100000 in
theorem ii_tr_keepBest_6 : sm_D prog_6_method_7_code 6 1 7 (.istore_n 2) := ⟨by decide +kernel, rfl⟩
set_option maxRecDepth 100000 in
theorem ii_tr_keepBest_7 : sm_D prog_6_method_7_code 7 1 8 (.iload_n 2) := ⟨by decide +kernel, rfl⟩
set_option maxRecDepth 100000 in
theorem ii_tr_keepBest_8 : sm_D prog_6_method_7_code 8 1 9 (.iload_n 1) := ⟨by decide +kernel, rfl⟩
set_option maxRecDepth 100000 in
theorem ii_tr_keepBest_9 : sm_D prog_6_method_7_code 9 3 12 (.if_icmp .ge 21) := ⟨by decide +kernel, rfl⟩
set_option maxRecDepth 100000 in
theorem ii_tr_keepBest_12 : sm_D prog_6_method_7_code 12 1 13 (.aload_n 0) := ⟨by decide +kernel, rfl⟩
set_option maxRecDepth 100000 in
theorem ii_tr_keepBest_13 : sm_D prog_6_method_7_code 13 3 16 (.getfield 19) := ⟨by decide +kernel, rfl⟩
set_option maxRecDepth 100000 in
theorem ii_tr_keepBest_16 : sm_D prog_6_method_7_code 16 1 17 (.iload_n 2) := ⟨by decide +kernel, rfl⟩
set_option maxRecDepth 100000 in
theorem ii_tr_keepBest_17 : sm_D prog_6_method_7_code 17 1 18 (.aload_n 0) := ⟨by decide +kernel, rfl⟩
set_option maxRecDepth 100000 in
theorem ii_tr_keepBest_18 : sm_D prog_6_method_7_code 18 3 21 (.getfield 15) := ⟨by decide +kernel, rfl⟩
set_option maxRecDepth 100000 in
theorem ii_tr_keepBest_21 : sm_D prog_6_method_7_code 21 1 22 (.iload_n 2) := ⟨by decide +kernel, rfl⟩
set_option maxRecDepth 100000 in
theorem ii_tr_keepBest_22 : sm_D prog_6_method_7_code 22 1 23 (.iaload) := ⟨by decide +kernel, rfl⟩
set_option maxRecDepth 100000 in
theorem ii_tr_keepBest_23 : sm_D prog_6_method_7_code 23 1 24 (.iastore) := ⟨by decide +kernel, rfl⟩
set_option maxRecDepth 100000 in
theorem ii_tr_keepBest_24 : sm_D prog_6_method_7_code 24 3 27 (.iinc 2 1) := ⟨by decide +kernel, rfl⟩
set_option maxRecDepth 100000 in
theorem ii_tr_keepBest_27 : sm_D prog_6_method_7_code 27 3 30 (.goto (-20)) := ⟨by decide +kernel, rfl⟩
set_option maxRecDepth 100000 in
theorem ii_tr_keepBest_30 : sm_D prog_6_method_7_code 30 1 31 (.return_) := ⟨by decide +kernel, rfl⟩
noncomputable def ff_tr_keepBest_7_b  (self7 : Int32 → Int32 → sm_Mem → sm_R) (a1 : Int32) (a2 : Int32) (w : sm_Mem) : sm_R := (if a1 ≤ a2 then (some (.null, w)) else (Option.bind (sm_rd w 57 4 a2) fun x1 => (Option.bind (sm_wr w 58 4 a2 x1) fun w2 => self7 (a1) ((a2 + (1 : Int32))) w2)))
noncomputable def ff_tr_keepBest_7_f  : Nat → Int32 → Int32 → sm_Mem → sm_R
  | 0, _, _, _ => none
  | n + 1, a1, a2, w => ff_tr_keepBest_7_b  (ff_tr_keepBest_7_f  n) a1 a2 w
noncomputable def ff_tr_keepBest_7  (a1 : Int32) (a2 : Int32) (w : sm_Mem) : sm_R := ff_tr_keepBest_7_f  sm_N a1 a2 w
set_option maxHeartbeats 4000000 in
set_option maxRecDepth 100000 in
theorem ss_tr_keepBest_7_b {E : Nat × (Nat → Int32)}  (self7 : Int32 → Int32 → sm_Mem → sm_R) (hself7 : ∀ (a1 : Int32) (a2 : Int32) (w : sm_Mem), sm_Sim E (mi_tr_keepBest) 7 [some (.ref 56), some (.int a1), some (.int a2)] [] w (self7 a1 a2 w)) (a1 : Int32) (a2 : Int32) (w : sm_Mem) : sm_Sim E (mi_tr_keepBest) 7 [some (.ref 56), some (.int a1), some (.int a2)] [] w (ff_tr_keepBest_7_b  self7 a1 a2 w) := by
  unfold ff_tr_keepBest_7_b
  refine sm_iload_n ii_tr_keepBest_7 rfl ?_
  refine sm_iload_n ii_tr_keepBest_8 rfl ?_
  refine sm_icmp_ge 30 ii_tr_keepBest_9 (by decide) ?_ ?_
  · exact sm_vret ii_tr_keepBest_30 rfl
  · refine sm_aload_n ii_tr_keepBest_12 rfl ?_
    refine sm_getR 58 ii_tr_keepBest_13 fl_tr_19 (k := 56) rfl ?_
    refine sm_iload_n ii_tr_keepBest_16 rfl ?_
    refine sm_aload_n ii_tr_keepBest_17 rfl ?_
    refine sm_getR 57 ii_tr_keepBest_18 fl_tr_15 (k := 56) rfl ?_
    refine sm_iload_n ii_tr_keepBest_21 rfl ?_
    refine sm_iald ii_tr_keepBest_22 (k := 57) rfl (fun x1 => ?_)
    refine sm_iast ii_tr_keepBest_23 (k := 58) rfl (fun w2 => ?_)
    refine sm_iinc (a2 + (1 : Int32)) [some (.ref 56), some (.int a1), some (.int (a2 + (1 : Int32)))] ii_tr_keepBest_24 rfl rfl rfl rfl ?_
    refine sm_goto 7 ii_tr_keepBest_27 (by decide) ?_
    exact hself7 (a1) ((a2 + (1 : Int32))) w2
set_option maxHeartbeats 4000000 in
set_option maxRecDepth 100000 in
theorem ss_tr_keepBest_7_f {E : Nat × (Nat → Int32)}  : ∀ (n : Nat) (a1 : Int32) (a2 : Int32) (w : sm_Mem), sm_Sim E (mi_tr_keepBest) 7 [some (.ref 56), some (.int a1), some (.int a2)] [] w (ff_tr_keepBest_7_f  n a1 a2 w)
  | 0, _, _, _ => fun _ _ h => by cases h
  | n + 1, a1, a2, w => ss_tr_keepBest_7_b  _ (ss_tr_keepBest_7_f  n) a1 a2 w
set_option maxHeartbeats 4000000 in
set_option maxRecDepth 100000 in
theorem ss_tr_keepBest_7 {E : Nat × (Nat → Int32)}  (a1 : Int32) (a2 : Int32) (w : sm_Mem) : sm_Sim E (mi_tr_keepBest) 7 [some (.ref 56), some (.int a1), some (.int a2)] [] w (ff_tr_keepBest_7  a1 a2 w) := ss_tr_keepBest_7_f  sm_N a1 a2 w
noncomputable def ff_tr_keepBest  (a1 : Int32) (w : sm_Mem) : sm_R := (sm_let (sm_wI w 56 3 a1) fun w3 => ff_tr_keepBest_7 (a1) ((0 : Int32)) w3)
set_option maxHeartbeats 4000000 in
set_option maxRecDepth 100000 in
theorem ss_tr_keepBest_0 {E : Nat × (Nat → Int32)}  (a1 : Int32) (w : sm_Mem) : sm_Sim E (mi_tr_keepBest) 0 [some (.ref 56), some (.int a1), none] [] w (ff_tr_keepBest  a1 w) := by
  unfold ff_tr_keepBest
  refine sm_aload_n ii_tr_keepBest_0 rfl ?_
  refine sm_iload_n ii_tr_keepBest_1 rfl ?_
  refine sm_putI ii_tr_keepBest_2 fp_tr_45 (k := 56) rfl (fun w3 => ?_)
  refine sm_iconst (0 : Int32) ii_tr_keepBest_5 (by decide) ?_
  refine sm_istore_n [some (.ref 56), some (.int a1), some (.int (0 : Int32))] ii_tr_keepBest_6 rfl rfl ?_
  exact ss_tr_keepBest_7 (a1) ((0 : Int32)) w3
set_option maxHeartbeats 4000000 in
set_option maxRecDepth 100000 in
theorem mc_tr_keepBest {E : Nat × (Nat → Int32)} (a1 : Int32) (w : sm_Mem) : sm_MC E mi_tr_keepBest [.ref 56, .int a1] w (ff_tr_keepBest a1 w) := sm_MC_of E (by decide +kernel) rfl (Nat.le_of_ble_eq_true rfl) (ss_tr_keepBest_0 a1 w)
abbrev mi_tr_lengthen (k : Nat) : sm_MI := (⟨"HerOrders$Trials", "lengthen", "(II)V"⟩, prog_6_method_6_code, 4, none, k)
set_option maxRecDepth 100000 in
theorem mf_tr_lengthen_z : sm_MF (mi_tr_lengthen 0) 2 := ⟨List.mem_of_getElem? (i := 603) (by decide +kernel), List.mem_of_getElem? (i := 75) (by decide +kernel), ⟨by decide, by decide⟩, by decide +kernel⟩
set_option maxRecDepth 100000 in
theorem mf_tr_lengthen (k : Nat) : sm_MF (mi_tr_lengthen k) 2 := mf_tr_lengthen_z
set_option maxRecDepth 100000 in
theorem mv_tr_lengthen_z : sm_MFV (mi_tr_lengthen 0) := ⟨List.mem_of_getElem? (i := 602) (by decide +kernel), List.mem_of_getElem? (i := 38) (by decide +kernel)⟩
set_option maxRecDepth 100000 in
theorem mv_tr_lengthen (k : Nat) : sm_MFV (mi_tr_lengthen k) := mv_tr_lengthen_z
set_option maxRecDepth 100000 in
theorem ii_tr_lengthen_0 : sm_D prog_6_method_6_code 0 1 1 (.iload_n 1) := ⟨by decide +kernel, rfl⟩
set_option maxRecDepth 100000 in
theorem ii_tr_lengthen_1 : sm_D prog_6_method_6_code 1 1 2 (.iload_n 2) := ⟨by decide +kernel, rfl⟩
set_option maxRecDepth 100000 in
theorem ii_tr_lengthen_2 : sm_D prog_6_method_6_code 2 3 5 (.if_icmp .ge 8) := ⟨by decide +kernel, rfl⟩
set_option maxRecDepth 100000 in
theorem ii_tr_lengthen_5 : sm_D prog_6_method_6_code 5 1 6 (.iload_n 1) := ⟨by decide +kernel, rfl⟩
set_option maxRecDepth 100000 in
theorem ii_tr_lengthen_6 : sm_D prog_6_method_6_code 6 1 7 (.iconst 4) := ⟨by decide +kernel, rfl⟩
set_option maxRecDepth 100000 in
theorem ii_tr_lengthen_7 : sm_D prog_6_method_6_code 7 3 10 (.if_icmp .lt 4) := ⟨by decide +kernel, rfl⟩
set_option maxRecDepth 100000 in
theorem ii_tr_lengthen_10 : sm_D prog_6_method_6_code 10 1 11 (.return_) := ⟨by decide +kernel, rfl⟩
set_option maxRecDepth 100000 in
theorem ii_tr_lengthen_11 : sm_D prog_6_method_6_code 11 1 12 (.iconst 0) := ⟨by decide +kernel, rfl⟩
set_option maxRecDepth 100000 in
theorem ii_tr_lengthen_12 : sm_D prog_6_method_6_code 12 1 13 (.istore_n 3) := ⟨by decide +kernel, rfl⟩
set_option maxRecDepth 100000 in
theorem ii_tr_lengthen_13 : sm_D prog_6_method_6_code 13 1 14 (.iload_n 3) := ⟨by decide +kernel, rfl⟩
set_option maxRecDepth 100000 in
theorem ii_tr_lengthen_14 : sm_D prog_6_method_6_code 14 2 16 (.bipush 6) := ⟨by decide +kernel, rfl⟩
set_option maxRecDepth 100000 in
theorem ii_tr_lengthen_16 : sm_D prog_6_method_6_code 16 3 19 (.if_icmp .ge 63) := ⟨by decide +kernel, rfl⟩
set_option maxRecDepth 100000 in
theorem ii_tr_lengthen_19 : sm_D prog_6_method_6_code 19 1 20 (.aload_n 0) := ⟨by decide +kernel, rfl⟩
set_option maxRecDepth 100000 in
theorem ii_tr_lengthen_20 : sm_D prog_6_method_6_code 20 3 23 (.getfield 45) := ⟨by decide +kernel, rfl⟩
set_option maxRecDepth 100000 in
theorem ii_tr_lengthen_23 : sm_D prog_6_method_6_code 23 1 24 (.iload_n 2) := ⟨by decide +kernel, rfl⟩
set_option maxRecDepth 100000 in
theorem ii_tr_lengthen_24 : sm_D prog_6_method_6_code 24 3 27 (.if_icmp .ge 55) := ⟨by decide +kernel, rfl⟩
set_option maxRecDepth 100000 in
theorem ii_tr_lengthen_27 : sm_D prog_6_method_6_code 27 1 28 (.aload_n 0) := ⟨by decide +kernel, rfl⟩
set_option maxRecDepth 100000 in
theorem ii_tr_lengthen_28 : sm_D prog_6_method_6_code 28 3 31 (.getfield 15) := ⟨by decide +kernel, rfl⟩
set_option maxRecDepth 100000 in
theorem ii_tr_lengthen_31 : sm_D prog_6_method_6_code 31 1 32 (.iload_n 1) := ⟨by decide +kernel, rfl⟩
set_option maxRecDepth 100000 in
theorem ii_tr_lengthen_32 : sm_D prog_6_method_6_code 32 1 33 (.iload_n 3) := ⟨by decide +kernel, rfl⟩
set_option maxRecDepth 100000 in
theorem ii_tr_lengthen_33 : sm_D prog_6_method_6_code 33 1 34 (.iastore) := ⟨by decide +kernel, rfl⟩
set_option maxRecDepth 100000 in
theorem ii_tr_lengthen_34 : sm_D prog_6_method_6_code 34 1 35 (.aload_n 0) := ⟨by decide +kernel, rfl⟩
set_option maxRecDepth 100000 in
theorem ii_tr_lengthen_35 : sm_D prog_6_method_6_code 35 1 36 (.iconst 0) := ⟨by decide +kernel, rfl⟩
set_option maxRecDepth 100000 in
theorem ii_tr_lengthen_36 : sm_D prog_6_method_6_code 36 1 37 (.iload_n 1) := ⟨by decide +kernel, rfl⟩
set_option maxRecDepth 100000 in
theorem ii_tr_lengthen_37 : sm_D prog_6_method_6_code 37 1 38 (.iconst 1) := ⟨by decide +kernel, rfl⟩
set_option maxRecDepth 100000 in
theorem ii_tr_lengthen_38 : sm_D prog_6_method_6_code 38 1 39 (.iadd) := ⟨by decide +kernel, rfl⟩
set_option maxRecDepth 100000 in
theorem ii_tr_lengthen_39 : sm_D prog_6_method_6_code 39 3 42 (.invokevirtual 25) := ⟨by decide +kernel, rfl⟩
set_option maxRecDepth 100000 in
theorem ii_tr_lengthen_42 : sm_D prog_6_method_6_code 42 3 45 (.ifCond .ne 6) := ⟨by decide +kernel, rfl⟩
set_option maxRecDepth 100000 in
theorem ii_tr_lengthen_45 : sm_D prog_6_method_6_code 45 3 48 (.goto 28) := ⟨by decide +kernel, rfl⟩
set_option maxRecDepth 100000 in
theorem ii_tr_lengthen_48 : sm_D prog_6_method_6_code 48 1 49 (.iload_n 1) := ⟨by decide +kernel, rfl⟩
set_option maxRecDepth 100000 in
theorem ii_tr_lengthen_49 : sm_D prog_6_method_6_code 49 1 50 (.iconst 1) := ⟨by decide +kernel, rfl⟩
set_option maxRecDepth 100000 in
theorem ii_tr_lengthen_50 : sm_D prog_6_method_6_code 50 1 51 (.iadd) := ⟨by decide +kernel, rfl⟩
set_option maxRecDepth 100000 in
theorem ii_tr_lengthen_51 : sm_D prog_6_method_6_code 51 1 52 (.aload_n 0) := ⟨by decide +kernel, rfl⟩
set_option maxRecDepth 100000 in
theorem ii_tr_lengthen_52 : sm_D prog_6_method_6_code 52 3 55 (.getfield 45) := ⟨by decide +kernel, rfl⟩
set_option maxRecDepth 100000 in
theorem ii_tr_lengthen_55 : sm_D prog_6_method_6_code 55 3 58 (.if_icmp .le 10) := ⟨by decide +kernel, rfl⟩
set_option maxRecDepth 100000 in
theorem ii_tr_lengthen_58 : sm_D prog_6_method_6_code 58 1 59 (.aload_n 0) := ⟨by decide +kernel, rfl⟩
set_option maxRecDepth 100000 in
theorem ii_tr_lengthen_59 : sm_D prog_6_method_6_code 59 1 60 (.iload_n 1) := ⟨by decide +kernel, rfl⟩
set_option maxRecDepth 100000 in
theorem ii_tr_lengthen_60 : sm_D prog_6_method_6_code 60 1 61 (.iconst 1) := ⟨by decide +kernel, rfl⟩
set_option maxRecDepth 100000 in
theorem ii_tr_lengthen_61 : sm_D prog_6_method_6_code 61 1 62 (.iadd) := ⟨by decide +kernel, rfl⟩
set_option maxRecDepth 100000 in
theorem ii_tr_lengthen_62 : sm_D prog_6_method_6_code 62 3 65 (.invokevirtual 65) := ⟨by decide +kernel, rfl⟩
set_option maxRecDepth 100000 in
theorem ii_tr_lengthen_65 : sm_D prog_6_method_6_code 65 1 66 (.aload_n 0) := ⟨by decide +kernel, rfl⟩
set_option maxRecDepth 100000 in
theorem ii_tr_lengthen_66 : sm_D prog_6_method_6_code 66 1 67 (.iload_n 1) := ⟨by decide +kernel, rfl⟩
set_option maxRecDepth 100000 in
theorem ii_tr_lengthen_67 : sm_D prog_6_method_6_code 67 1 68 (.iconst 1) := ⟨by decide +kernel, rfl⟩
set_option maxRecDepth 100000 in
theorem ii_tr_lengthen_68 : sm_D prog_6_method_6_code 68 1 69 (.iadd) := ⟨by decide +kernel, rfl⟩
set_option maxRecDepth 100000 in
theorem ii_tr_lengthen_69 : sm_D prog_6_method_6_code 69 1 70 (.iload_n 2) := ⟨by decide +kernel, rfl⟩
set_option maxRecDepth 100000 in
theorem ii_tr_lengthen_70 : sm_D prog_6_method_6_code 70 3 73 (.invokevirtual 52) := ⟨by decide +kernel, rfl⟩
set_option maxRecDepth 100000 in
theorem ii_tr_lengthen_73 : sm_D prog_6_method_6_code 73 3 76 (.iinc 3 1) := ⟨by decide +kernel, rfl⟩
set_option maxRecDepth 100000 in
theorem ii_tr_lengthen_76 : sm_D prog_6_method_6_code 76 3 79 (.goto (-63)) := ⟨by decide +kernel, rfl⟩
set_option maxRecDepth 100000 in
theorem ii_tr_lengthen_79 : sm_D prog_6_method_6_code 79 1 80 (.return_) := ⟨by decide +kernel, rfl⟩
noncomputable def ff_tr_lengthen_65 (rc : Int32 → Int32 → sm_Mem → sm_R) (self13 : Int32 → Int32 → Int32 → sm_Mem → sm_R) (a1 : Int32) (a2 : Int32) (a3 : Int32) (w : sm_Mem) : sm_R := (sm_cV (rc ((a1 + (1 : Int32))) (a2) w) fun w2 => self13 (a1) (a2) ((a3 + (1 : Int32))) w2)
set_option maxHeartbeats 4000000 in
set_option maxRecDepth 100000 in
theorem ss_tr_lengthen_65 {E : Nat × (Nat → Int32)} {dn : Nat} (rc : Int32 → Int32 → sm_Mem → sm_R) (hrc : ∀ (a1 : Int32) (a2 : Int32) (w : sm_Mem), sm_MC E (mi_tr_lengthen (12 + dn)) [.ref 56, .int a1, .int a2] w (rc a1 a2 w)) (self13 : Int32 → Int32 → Int32 → sm_Mem → sm_R) (hself13 : ∀ (a1 : Int32) (a2 : Int32) (a3 : Int32) (w : sm_Mem), sm_Sim E (mi_tr_lengthen (12 + dn + 1)) 13 [some (.ref 56), some (.int a1), some (.int a2), some (.int a3)] [] w (self13 a1 a2 a3 w)) (a1 : Int32) (a2 : Int32) (a3 : Int32) (w : sm_Mem) : sm_Sim E (mi_tr_lengthen (12 + dn + 1)) 65 [some (.ref 56), some (.int a1), some (.int a2), some (.int a3)] [] w (ff_tr_lengthen_65 rc self13 a1 a2 a3 w) := by
  unfold ff_tr_lengthen_65
  refine sm_aload_n ii_tr_lengthen_65 rfl ?_
  refine sm_iload_n ii_tr_lengthen_66 rfl ?_
  refine sm_iconst (1 : Int32) ii_tr_lengthen_67 (by decide) ?_
  refine sm_iadd ii_tr_lengthen_68 ?_
  refine sm_iload_n ii_tr_lengthen_69 rfl ?_
  refine sm_cvV [.int (a1 + (1 : Int32)), .int a2] [] rfl ii_tr_lengthen_70 ml_tr_52 (mf_tr_lengthen (12 + dn)) (mv_tr_lengthen (12 + dn)) (Nat.le_refl _) rfl 4 rfl rfl rfl rfl (hrc ((a1 + (1 : Int32))) (a2) w) (fun w2 => ?_)
  refine sm_iinc (a3 + (1 : Int32)) [some (.ref 56), some (.int a1), some (.int a2), some (.int (a3 + (1 : Int32)))] ii_tr_lengthen_73 rfl rfl rfl rfl ?_
  refine sm_goto 13 ii_tr_lengthen_76 (by decide) ?_
  exact hself13 (a1) (a2) ((a3 + (1 : Int32))) w2
noncomputable def ff_tr_lengthen_13_b (rc : Int32 → Int32 → sm_Mem → sm_R)  (self13 : Int32 → Int32 → Int32 → sm_Mem → sm_R) (a1 : Int32) (a2 : Int32) (a3 : Int32) (w : sm_Mem) : sm_R := (if (6 : Int32) ≤ a3 then (some (.null, w)) else (if a2 ≤ (w.1 56 3) then (some (.null, w)) else (Option.bind (sm_wr w 57 4 a1 a3) fun w3 => (sm_cI (ff_tr_hasWay 8 ((0 : Int32)) ((a1 + (1 : Int32))) w3) fun x4 w5 => (if x4 = (0 : Int32) then self13 (a1) (a2) ((a3 + (1 : Int32))) w5 else (if (a1 + (1 : Int32)) ≤ (w5.1 56 3) then ff_tr_lengthen_65 rc self13 (a1) (a2) (a3) w5 else (sm_cV (ff_tr_keepBest ((a1 + (1 : Int32))) w5) fun w7 => ff_tr_lengthen_65 rc self13 (a1) (a2) (a3) w7)))))))
noncomputable def ff_tr_lengthen_13_f (rc : Int32 → Int32 → sm_Mem → sm_R)  : Nat → Int32 → Int32 → Int32 → sm_Mem → sm_R
  | 0, _, _, _, _ => none
  | n + 1, a1, a2, a3, w => ff_tr_lengthen_13_b rc  (ff_tr_lengthen_13_f rc  n) a1 a2 a3 w
noncomputable def ff_tr_lengthen_13 (rc : Int32 → Int32 → sm_Mem → sm_R)  (a1 : Int32) (a2 : Int32) (a3 : Int32) (w : sm_Mem) : sm_R := ff_tr_lengthen_13_f rc  sm_N a1 a2 a3 w
set_option maxHeartbeats 4000000 in
set_option maxRecDepth 100000 in
theorem ss_tr_lengthen_13_b {E : Nat × (Nat → Int32)} {dn : Nat} (rc : Int32 → Int32 → sm_Mem → sm_R) (hrc : ∀ (a1 : Int32) (a2 : Int32) (w : sm_Mem), sm_MC E (mi_tr_lengthen (12 + dn)) [.ref 56, .int a1, .int a2] w (rc a1 a2 w))  (self13 : Int32 → Int32 → Int32 → sm_Mem → sm_R) (hself13 : ∀ (a1 : Int32) (a2 : Int32) (a3 : Int32) (w : sm_Mem), sm_Sim E (mi_tr_lengthen (12 + dn + 1)) 13 [some (.ref 56), some (.int a1), some (.int a2), some (.int a3)] [] w (self13 a1 a2 a3 w)) (a1 : Int32) (a2 : Int32) (a3 : Int32) (w : sm_Mem) : sm_Sim E (mi_tr_lengthen (12 + dn + 1)) 13 [some (.ref 56), some (.int a1), some (.int a2), some (.int a3)] [] w (ff_tr_lengthen_13_b rc  self13 a1 a2 a3 w) := by
  unfold ff_tr_lengthen_13_b
  refine sm_iload_n ii_tr_lengthen_13 rfl ?_
  refine sm_bipush (6 : Int32) ii_tr_lengthen_14 (by decide) ?_
  refine sm_icmp_ge 79 ii_tr_lengthen_16 (by decide) ?_ ?_
  · exact sm_vret ii_tr_lengthen_79 rfl
  · refine sm_aload_n ii_tr_lengthen_19 rfl ?_
    refine sm_getI ii_tr_lengthen_20 fl_tr_45 (k := 56) rfl ?_
    refine sm_iload_n ii_tr_lengthen_23 rfl ?_
    refine sm_icmp_ge 79 ii_tr_lengthen_24 (by decide) ?_ ?_
    · exact sm_vret ii_tr_lengthen_79 rfl
    · refine sm_aload_n ii_tr_lengthen_27 rfl ?_
      refine sm_getR 57 ii_tr_lengthen_28 fl_tr_15 (k := 56) rfl ?_
      refine sm_iload_n ii_tr_lengthen_31 rfl ?_
      refine sm_iload_n ii_tr_lengthen_32 rfl ?_
      refine sm_iast ii_tr_lengthen_33 (k := 57) rfl (fun w3 => ?_)
      refine sm_aload_n ii_tr_lengthen_34 rfl ?_
      refine sm_iconst (0 : Int32) ii_tr_lengthen_35 (by decide) ?_
      refine sm_iload_n ii_tr_lengthen_36 rfl ?_
      refine sm_iconst (1 : Int32) ii_tr_lengthen_37 (by decide) ?_
      refine sm_iadd ii_tr_lengthen_38 ?_
      refine sm_cvI [.int (0 : Int32), .int (a1 + (1 : Int32))] [] rfl ii_tr_lengthen_39 ml_tr_25 (mf_tr_hasWay 11) (mv_tr_hasWay 11) (sm_kle rfl) rfl 4 rfl rfl rfl rfl (mc_tr_hasWay 8 ((0 : Int32)) ((a1 + (1 : Int32))) w3) (fun x4 w5 => ?_)
      refine sm_if_ne 48 ii_tr_lengthen_42 (by decide) ?_ ?_
      · refine sm_goto 73 ii_tr_lengthen_45 (by decide) ?_
        refine sm_iinc (a3 + (1 : Int32)) [some (.ref 56), some (.int a1), some (.int a2), some (.int (a3 + (1 : Int32)))] ii_tr_lengthen_73 rfl rfl rfl rfl ?_
        refine sm_goto 13 ii_tr_lengthen_76 (by decide) ?_
        exact hself13 (a1) (a2) ((a3 + (1 : Int32))) w5
      · refine sm_iload_n ii_tr_lengthen_48 rfl ?_
        refine sm_iconst (1 : Int32) ii_tr_lengthen_49 (by decide) ?_
        refine sm_iadd ii_tr_lengthen_50 ?_
        refine sm_aload_n ii_tr_lengthen_51 rfl ?_
        refine sm_getI ii_tr_lengthen_52 fl_tr_45 (k := 56) rfl ?_
        refine sm_icmp_le 65 ii_tr_lengthen_55 (by decide) ?_ ?_
        · exact ss_tr_lengthen_65 rc hrc self13 hself13 (a1) (a2) (a3) w5
        · refine sm_aload_n ii_tr_lengthen_58 rfl ?_
          refine sm_iload_n ii_tr_lengthen_59 rfl ?_
          refine sm_iconst (1 : Int32) ii_tr_lengthen_60 (by decide) ?_
          refine sm_iadd ii_tr_lengthen_61 ?_
          refine sm_cvV [.int (a1 + (1 : Int32))] [] rfl ii_tr_lengthen_62 ml_tr_65 (mf_tr_keepBest) (mv_tr_keepBest) (sm_kle rfl) rfl 4 rfl rfl rfl rfl (mc_tr_keepBest ((a1 + (1 : Int32))) w5) (fun w7 => ?_)
          exact ss_tr_lengthen_65 rc hrc self13 hself13 (a1) (a2) (a3) w7
set_option maxHeartbeats 4000000 in
set_option maxRecDepth 100000 in
theorem ss_tr_lengthen_13_f {E : Nat × (Nat → Int32)} {dn : Nat} (rc : Int32 → Int32 → sm_Mem → sm_R) (hrc : ∀ (a1 : Int32) (a2 : Int32) (w : sm_Mem), sm_MC E (mi_tr_lengthen (12 + dn)) [.ref 56, .int a1, .int a2] w (rc a1 a2 w))  : ∀ (n : Nat) (a1 : Int32) (a2 : Int32) (a3 : Int32) (w : sm_Mem), sm_Sim E (mi_tr_lengthen (12 + dn + 1)) 13 [some (.ref 56), some (.int a1), some (.int a2), some (.int a3)] [] w (ff_tr_lengthen_13_f rc  n a1 a2 a3 w)
  | 0, _, _, _, _ => fun _ _ h => by cases h
  | n + 1, a1, a2, a3, w => ss_tr_lengthen_13_b rc hrc  _ (ss_tr_lengthen_13_f rc hrc  n) a1 a2 a3 w
set_option maxHeartbeats 4000000 in
set_option maxRecDepth 100000 in
theorem ss_tr_lengthen_13 {E : Nat × (Nat → Int32)} {dn : Nat} (rc : Int32 → Int32 → sm_Mem → sm_R) (hrc : ∀ (a1 : Int32) (a2 : Int32) (w : sm_Mem), sm_MC E (mi_tr_lengthen (12 + dn)) [.ref 56, .int a1, .int a2] w (rc a1 a2 w))  (a1 : Int32) (a2 : Int32) (a3 : Int32) (w : sm_Mem) : sm_Sim E (mi_tr_lengthen (12 + dn + 1)) 13 [some (.ref 56), some (.int a1), some (.int a2), some (.int a3)] [] w (ff_tr_lengthen_13 rc  a1 a2 a3 w) := ss_tr_lengthen_13_f rc hrc  sm_N a1 a2 a3 w
noncomputable def ff_tr_lengthen_0 (rc : Int32 → Int32 → sm_Mem → sm_R)  (a1 : Int32) (a2 : Int32) (w : sm_Mem) : sm_R := (if a2 ≤ a1 then (some (.null, w)) else (if a1 < (4 : Int32) then ff_tr_lengthen_13 rc (a1) (a2) ((0 : Int32)) w else (some (.null, w))))
set_option maxHeartbeats 4000000 in
set_option maxRecDepth 100000 in
theorem ss_tr_lengthen_0 {E : Nat × (Nat → Int32)} {dn : Nat} (rc : Int32 → Int32 → sm_Mem → sm_R) (hrc : ∀ (a1 : Int32) (a2 : Int32) (w : sm_Mem), sm_MC E (mi_tr_lengthen (12 + dn)) [.ref 56, .int a1, .int a2] w (rc a1 a2 w))  (a1 : Int32) (a2 : Int32) (w : sm_Mem) : sm_Sim E (mi_tr_lengthen (12 + dn + 1)) 0 [some (.ref 56), some (.int a1), some (.int a2), none] [] w (ff_tr_lengthen_0 rc  a1 a2 w) := by
  unfold ff_tr_lengthen_0
  refine sm_iload_n ii_tr_lengthen_0 rfl ?_
  refine sm_iload_n ii_tr_lengthen_1 rfl ?_
  refine sm_icmp_ge 10 ii_tr_lengthen_2 (by decide) ?_ ?_
  · exact sm_vret ii_tr_lengthen_10 rfl
  · refine sm_iload_n ii_tr_lengthen_5 rfl ?_
    refine sm_iconst (4 : Int32) ii_tr_lengthen_6 (by decide) ?_
    refine sm_icmp_lt 11 ii_tr_lengthen_7 (by decide) ?_ ?_
    · refine sm_iconst (0 : Int32) ii_tr_lengthen_11 (by decide) ?_
      refine sm_istore_n [some (.ref 56), some (.int a1), some (.int a2), some (.int (0 : Int32))] ii_tr_lengthen_12 rfl rfl ?_
      exact ss_tr_lengthen_13 rc hrc (a1) (a2) ((0 : Int32)) w
    · exact sm_vret ii_tr_lengthen_10 rfl
noncomputable def ff_tr_lengthen : Nat → Int32 → Int32 → sm_Mem → sm_R
  | 0, _, _, _ => none
  | n + 1, a1, a2, w => ff_tr_lengthen_0 (ff_tr_lengthen n) a1 a2 w
set_option maxHeartbeats 4000000 in
set_option maxRecDepth 100000 in
theorem mc_tr_lengthen {E : Nat × (Nat → Int32)} : ∀ (n : Nat) (a1 : Int32) (a2 : Int32) (w : sm_Mem), sm_MC E (mi_tr_lengthen (12 + n)) [.ref 56, .int a1, .int a2] w (ff_tr_lengthen n a1 a2 w)
  | 0, _, _, _ => fun _ _ h => by cases h
  | n + 1, a1, a2, w => sm_MC_of E (show plainName "HerOrders$Trials" = true by decide +kernel) rfl (Nat.le_of_ble_eq_true rfl) (ss_tr_lengthen_0 (dn := n) _ (mc_tr_lengthen n) a1 a2 w)
abbrev mi_tr_seekLongest : sm_MI := (⟨"HerOrders$Trials", "seekLongest", "()V"⟩, prog_6_method_4_code, 1, none, 21)
set_option maxRecDepth 100000 in
theorem mf_tr_seekLongest : sm_MF mi_tr_seekLongest 0 := ⟨List.mem_of_getElem? (i := 593) (by decide +kernel), List.mem_of_getElem? (i := 75) (by decide +kernel), ⟨by decide, by decide⟩, by decide +kernel⟩
set_option maxRecDepth 100000 in
theorem mv_tr_seekLongest : sm_MFV mi_tr_seekLongest := ⟨List.mem_of_getElem? (i := 592) (by decide +kernel), List.mem_of_getElem? (i := 36) (by decide +kernel)⟩
set_option maxRecDepth 100000 in
theorem ii_tr_seekLongest_0 : sm_D prog_6_method_4_code 0 1 1 (.aload_n 0) := ⟨by decide +kernel, rfl⟩
set_option maxRecDepth 100000 in
theorem ii_tr_seekLongest_1 : sm_D prog_6_method_4_code 1 1 2 (.iconst 0) := ⟨by decide +kernel, rfl⟩
set_option maxRecDepth 100000 in
theorem ii_tr_seekLongest_2 : sm_D prog_6_method_4_code 2 3 5 (.putfield 45) := ⟨by decide +kernel, rfl⟩
set_option maxRecDepth 100000 in
theorem ii_tr_seekLongest_5 : sm_D prog_6_method_4_code 5 1 6 (.aload_n 0) := ⟨by decide +kernel, rfl⟩
set_option maxRecDepth 100000 in
theorem ii_tr_seekLongest_6 : sm_D prog_6_method_4_code 6 1 7 (.iconst 0) := ⟨by decide +kernel, rfl⟩
set_option maxRecDepth 100000 in
theorem ii_tr_seekLongest_7 : sm_D prog_6_method_4_code 7 1 8 (.aload_n 0) := ⟨by decide +kernel, rfl⟩
set_option maxRecDepth 100000 in
theorem ii_tr_seekLongest_8 : sm_D prog_6_method_4_code 8 1 9 (.iconst 0) := ⟨by decide +kernel, rfl⟩
set_option maxRecDepth 100000 in
theorem ii_tr_seekLongest_9 : sm_D prog_6_method_4_code 9 3 12 (.invokevirtual 48) := ⟨by decide +kernel, rfl⟩
set_option maxRecDepth 100000 in
theorem ii_tr_seekLongest_12 : sm_D prog_6_method_4_code 12 3 15 (.invokevirtual 52) := ⟨by decide +kernel, rfl⟩
set_option maxRecDepth 100000 in
theorem ii_tr_seekLongest_15 : sm_D prog_6_method_4_code 15 1 16 (.return_) := ⟨by decide +kernel, rfl⟩
noncomputable def ff_tr_seekLongest   (w : sm_Mem) : sm_R := (sm_let (sm_wI w 56 3 (0 : Int32)) fun w1 => (sm_cI (ff_tr_freeTurns 8 ((0 : Int32)) w1) fun x2 w3 => (sm_cV (ff_tr_lengthen 8 ((0 : Int32)) (x2) w3) fun w5 => (some (.null, w5)))))
set_option maxHeartbeats 4000000 in
set_option maxRecDepth 100000 in
theorem ss_tr_seekLongest_0 {E : Nat × (Nat → Int32)}   (w : sm_Mem) : sm_Sim E (mi_tr_seekLongest) 0 [some (.ref 56)] [] w (ff_tr_seekLongest   w) := by
  unfold ff_tr_seekLongest
  refine sm_aload_n ii_tr_seekLongest_0 rfl ?_
  refine sm_iconst (0 : Int32) ii_tr_seekLongest_1 (by decide) ?_
  refine sm_putI ii_tr_seekLongest_2 fp_tr_45 (k := 56) rfl (fun w1 => ?_)
  refine sm_aload_n ii_tr_seekLongest_5 rfl ?_
  refine sm_iconst (0 : Int32) ii_tr_seekLongest_6 (by decide) ?_
  refine sm_aload_n ii_tr_seekLongest_7 rfl ?_
  refine sm_iconst (0 : Int32) ii_tr_seekLongest_8 (by decide) ?_
  refine sm_cvI [.int (0 : Int32)] [.int (0 : Int32), .ref 56] rfl ii_tr_seekLongest_9 ml_tr_48 (mf_tr_freeTurns 10) (mv_tr_freeTurns 10) (Nat.le_of_ble_eq_true rfl) rfl 4 rfl rfl rfl rfl (mc_tr_freeTurns 8 ((0 : Int32)) w1) (fun x2 w3 => ?_)
  refine sm_cvV [.int (0 : Int32), .int x2] [] rfl ii_tr_seekLongest_12 ml_tr_52 (mf_tr_lengthen 20) (mv_tr_lengthen 20) (Nat.le_of_ble_eq_true rfl) rfl 4 rfl rfl rfl rfl (mc_tr_lengthen 8 ((0 : Int32)) (x2) w3) (fun w5 => ?_)
  exact sm_vret ii_tr_seekLongest_15 rfl
set_option maxHeartbeats 4000000 in
set_option maxRecDepth 100000 in
theorem mc_tr_seekLongest {E : Nat × (Nat → Int32)}  (w : sm_Mem) : sm_MC E mi_tr_seekLongest [.ref 56] w (ff_tr_seekLongest  w) := sm_MC_of E (by decide +kernel) rfl (Nat.le_of_ble_eq_true rfl) (ss_tr_seekLongest_0  w)
abbrev mi_ho_longest : sm_MI := (⟨"HerOrders", "longest", "(I)I"⟩, prog_1_method_28_code, 2, (some .int), 22)
set_option maxRecDepth 100000 in
theorem mf_ho_longest : sm_MF mi_ho_longest 1 := ⟨List.mem_of_getElem? (i := 589) (by decide +kernel), List.mem_of_getElem? (i := 69) (by decide +kernel), ⟨by decide, by decide⟩, by decide +kernel⟩
set_option maxRecDepth 100000 in
theorem mv_ho_longest : sm_MFV mi_ho_longest := ⟨List.mem_of_getElem? (i := 587) (by decide +kernel), List.mem_of_getElem? (i := 588) (by decide +kernel)⟩
set_option maxRecDepth 100000 in
theorem ii_ho_longest_0 : sm_D prog_1_method_28_code 0 1 1 (.iload_n 1) := ⟨by decide +kernel, rfl⟩
set_option maxRecDepth 100000 in
theorem ii_ho_longest_1 : sm_D prog_1_method_28_code 1 2 3 (.bipush 6) := ⟨by decide +kernel, rfl⟩
set_option maxRecDepth 100000 in
theorem ii_ho_longest_3 : sm_D prog_1_method_28_code 3 3 6 (.invokestatic 81) := ⟨by decide +kernel, rfl⟩
set_option maxRecDepth 100000 in
theorem ii_ho_longest_6 : sm_D prog_1_method_28_code 6 3 9 (.ifCond .ne 5) := ⟨by decide +kernel, rfl⟩
set_option maxRecDepth 100000 in
theorem ii_ho_longest_9 : sm_D prog_1_method_28_code 9 1 10 (.iconst (-1)) := ⟨by decide +kernel, rfl⟩
set_option maxRecDepth 100000 in
theorem ii_ho_longest_10 : sm_D prog_1_method_28_code 10 1 11 (.ireturn) := ⟨by decide +kernel, rfl⟩
set_option maxRecDepth 100000 in
theorem ii_ho_longest_11 : sm_D prog_1_method_28_code 11 1 12 (.aload_n 0) := ⟨by decide +kernel, rfl⟩
set_option maxRecDepth 100000 in
theorem ii_ho_longest_12 : sm_D prog_1_method_28_code 12 3 15 (.getfield 31) := ⟨by decide +kernel, rfl⟩
set_option maxRecDepth 100000 in
theorem ii_ho_longest_15 : sm_D prog_1_method_28_code 15 3 18 (.getfield 115) := ⟨by decide +kernel, rfl⟩
set_option maxRecDepth 100000 in
theorem ii_ho_longest_18 : sm_D prog_1_method_28_code 18 3 21 (.ifCond .ne 6) := ⟨by decide +kernel, rfl⟩
set_option maxRecDepth 100000 in
theorem ii_ho_longest_21 : sm_D prog_1_method_28_code 21 2 23 (.bipush (-4)) := ⟨by decide +kernel, rfl⟩
set_option maxRecDepth 100000 in
theorem ii_ho_longest_23 : sm_D prog_1_method_28_code 23 1 24 (.ireturn) := ⟨by decide +kernel, rfl⟩
set_option maxRecDepth 100000 in
theorem ii_ho_longest_24 : sm_D prog_1_method_28_code 24 1 25 (.aload_n 0) := ⟨by decide +kernel, rfl⟩
set_option maxRecDepth 100000 in
theorem ii_ho_longest_25 : sm_D prog_1_method_28_code 25 3 28 (.getfield 47) := ⟨by decide +kernel, rfl⟩
set_option maxRecDepth 100000 in
theorem ii_ho_longest_28 : sm_D prog_1_method_28_code 28 3 31 (.invokevirtual 231) := ⟨by decide +kernel, rfl⟩
set_option maxRecDepth 100000 in
theorem ii_ho_longest_31 : sm_D prog_1_method_28_code 31 1 32 (.aload_n 0) := ⟨by decide +kernel, rfl⟩
set_option maxRecDepth 100000 in
theorem ii_ho_longest_32 : sm_D prog_1_method_28_code 32 3 35 (.getfield 11) := ⟨by decide +kernel, rfl⟩
set_option maxRecDepth 100000 in
theorem ii_ho_longest_35 : sm_D prog_1_method_28_code 35 1 36 (.iload_n 1) := ⟨by decide +kernel, rfl⟩
set_option maxRecDepth 100000 in
theorem ii_ho_longest_36 : sm_D prog_1_method_28_code 36 1 37 (.aaload) := ⟨by decide +kernel, rfl⟩
set_option maxRecDepth 100000 in
theorem ii_ho_longest_37 : sm_D prog_1_method_28_code 37 1 38 (.aload_n 0) := ⟨by decide +kernel, rfl⟩
set_option maxRecDepth 100000 in
theorem ii_ho_longest_38 : sm_D prog_1_method_28_code 38 3 41 (.getfield 47) := ⟨by decide +kernel, rfl⟩
set_option maxRecDepth 100000 in
theorem ii_ho_longest_41 : sm_D prog_1_method_28_code 41 3 44 (.getfield 234) := ⟨by decide +kernel, rfl⟩
set_option maxRecDepth 100000 in
theorem ii_ho_longest_44 : sm_D prog_1_method_28_code 44 1 45 (.aload_n 0) := ⟨by decide +kernel, rfl⟩
set_option maxRecDepth 100000 in
theorem ii_ho_longest_45 : sm_D prog_1_method_28_code 45 3 48 (.getfield 47) := ⟨by decide +kernel, rfl⟩
set_option maxRecDepth 100000 in
theorem ii_ho_longest_48 : sm_D prog_1_method_28_code 48 3 51 (.getfield 237) := ⟨by decide +kernel, rfl⟩
set_option maxRecDepth 100000 in
theorem ii_ho_longest_51 : sm_D prog_1_method_28_code 51 3 54 (.invokevirtual 216) := ⟨by decide +kernel, rfl⟩
set_option maxRecDepth 100000 in
theorem ii_ho_longest_54 : sm_D prog_1_method_28_code 54 1 55 (.aload_n 0) := ⟨by decide +kernel, rfl⟩
set_option maxRecDepth 100000 in
theorem ii_ho_longest_55 : sm_D prog_1_method_28_code 55 3 58 (.getfield 47) := ⟨by decide +kernel, rfl⟩
set_option maxRecDepth 100000 in
theorem ii_ho_longest_58 : sm_D prog_1_method_28_code 58 3 61 (.getfield 237) := ⟨by decide +kernel, rfl⟩
set_option maxRecDepth 100000 in
theorem ii_ho_longest_61 : sm_D prog_1_method_28_code 61 1 62 (.ireturn) := ⟨by decide +kernel, rfl⟩
noncomputable def ff_ho_longest  (a1 : Int32) (w : sm_Mem) : sm_R := (sm_cI (ff_ho_isWithin (a1) ((6 : Int32)) w) fun x1 w2 => (if x1 = (0 : Int32) then (some (.int (-1 : Int32), w2)) else (if (w2.1 36 0) = (0 : Int32) then (some (.int (-4 : Int32), w2)) else (sm_cV (ff_tr_seekLongest  w2) fun w4 => (Option.bind (sm_rr 1 a1) fun r5 => (sm_cV (sm_rc r5 2 (ff_rw_become (r5) (58) ((w4.1 56 3)) w4)) fun w7 => (some (.int (w7.1 56 3), w7))))))))
set_option maxHeartbeats 4000000 in
set_option maxRecDepth 100000 in
theorem ss_ho_longest_0 {E : Nat × (Nat → Int32)}  (a1 : Int32) (w : sm_Mem) : sm_Sim E (mi_ho_longest) 0 [some (.ref 0), some (.int a1)] [] w (ff_ho_longest  a1 w) := by
  unfold ff_ho_longest
  refine sm_iload_n ii_ho_longest_0 rfl ?_
  refine sm_bipush (6 : Int32) ii_ho_longest_1 (by decide) ?_
  refine sm_csI [.int a1, .int (6 : Int32)] [] rfl ii_ho_longest_3 ml_ho_81 (mf_ho_isWithin) (mv_ho_isWithin) (Nat.le_of_ble_eq_true rfl) rfl rfl rfl (mc_ho_isWithin (a1) ((6 : Int32)) w) (fun x1 w2 => ?_)
  refine sm_if_ne 11 ii_ho_longest_6 (by decide) ?_ ?_
  · refine sm_iconst (-1 : Int32) ii_ho_longest_9 (by decide) ?_
    exact sm_iret ii_ho_longest_10 rfl
  · refine sm_aload_n ii_ho_longest_11 rfl ?_
    refine sm_getR 36 ii_ho_longest_12 fl_ho_31 (k := 0) rfl ?_
    refine sm_getI ii_ho_longest_15 fl_ho_115 (k := 36) rfl ?_
    refine sm_if_ne 24 ii_ho_longest_18 (by decide) ?_ ?_
    · refine sm_bipush (-4 : Int32) ii_ho_longest_21 (by decide) ?_
      exact sm_iret ii_ho_longest_23 rfl
    · refine sm_aload_n ii_ho_longest_24 rfl ?_
      refine sm_getR 56 ii_ho_longest_25 fl_ho_47 (k := 0) rfl ?_
      refine sm_cvV [] [] rfl ii_ho_longest_28 ml_ho_231 (mf_tr_seekLongest) (mv_tr_seekLongest) (Nat.le_of_ble_eq_true rfl) rfl 4 rfl rfl rfl rfl (mc_tr_seekLongest  w2) (fun w4 => ?_)
      refine sm_aload_n ii_ho_longest_31 rfl ?_
      refine sm_getR 1 ii_ho_longest_32 fl_ho_11 (k := 0) rfl ?_
      refine sm_iload_n ii_ho_longest_35 rfl ?_
      refine sm_aald ii_ho_longest_36 (fun r5 => ?_)
      refine sm_aload_n ii_ho_longest_37 rfl ?_
      refine sm_getR 56 ii_ho_longest_38 fl_ho_47 (k := 0) rfl ?_
      refine sm_getR 58 ii_ho_longest_41 fl_ho_234 (k := 56) rfl ?_
      refine sm_aload_n ii_ho_longest_44 rfl ?_
      refine sm_getR 56 ii_ho_longest_45 fl_ho_47 (k := 0) rfl ?_
      refine sm_getI ii_ho_longest_48 fl_ho_237 (k := 56) rfl ?_
      refine sm_dvV [.ref 58, .int (w4.1 56 3)] [] rfl ii_ho_longest_51 ml_ho_216 (mf_rw_become) (mv_rw_become) (Nat.le_of_ble_eq_true rfl) rfl 2 rfl rfl rfl (mc_rw_become (r5) (58) ((w4.1 56 3)) w4) (fun w7 => ?_)
      refine sm_aload_n ii_ho_longest_54 rfl ?_
      refine sm_getR 56 ii_ho_longest_55 fl_ho_47 (k := 0) rfl ?_
      refine sm_getI ii_ho_longest_58 fl_ho_237 (k := 56) rfl ?_
      exact sm_iret ii_ho_longest_61 rfl
set_option maxHeartbeats 4000000 in
set_option maxRecDepth 100000 in
theorem mc_ho_longest {E : Nat × (Nat → Int32)} (a1 : Int32) (w : sm_Mem) : sm_MC E mi_ho_longest [.ref 0, .int a1] w (ff_ho_longest a1 w) := sm_MC_of E (by decide +kernel) rfl (Nat.le_of_ble_eq_true rfl) (ss_ho_longest_0 a1 w)
abbrev mi_rw_isOfPairs : sm_MI := (⟨"HerOrders$Row", "isOfPairs", "()Z"⟩, prog_4_method_8_code, 2, (some .boolean), 2)
set_option maxRecDepth 100000 in
theorem mf_rw_isOfPairs : sm_MF mi_rw_isOfPairs 0 := ⟨List.mem_of_getElem? (i := 619) (by decide +kernel), List.mem_of_getElem? (i := 70) (by decide +kernel), ⟨by decide, by decide⟩, by decide +kernel⟩
set_option maxRecDepth 100000 in
theorem mv_rw_isOfPairs : sm_MFV mi_rw_isOfPairs := ⟨List.mem_of_getElem? (i := 618) (by decide +kernel), List.mem_of_getElem? (i := 41) (by decide +kernel)⟩
set_option maxRecDepth 100000 in
theorem ii_rw_isOfPairs_0 : sm_D prog_4_method_8_code 0 1 1 (.iconst 0) := ⟨by decide +kernel, rfl⟩
set_option maxRecDepth 100000 in
theorem ii_rw_isOfPairs_1 : sm_D prog_4_method_8_code 1 1 2 (.istore_n 1) := ⟨by decide +kernel, rfl⟩
set_option maxRecDepth 100000 in
theorem ii_rw_isOfPairs_2 : sm_D prog_4_method_8_code 2 1 3 (.iload_n 1) := ⟨by decide +kernel, rfl⟩
set_option maxRecDepth 100000 in
theorem ii_rw_isOfPairs_3 : sm_D prog_4_method_8_code 3 1 4 (.iconst 1) := ⟨by decide +kernel, rfl⟩
set_option maxRecDepth 100000 in
theorem ii_rw_isOfPairs_4 : sm_D prog_4_method_8_code 4 1 5 (.iadd) := ⟨by decide +kernel, rfl⟩
set_option maxRecDepth 100000 in
theorem ii_rw_isOfPairs_5 : sm_D prog_4_method_8_code 5 1 6 (.aload_n 0) := ⟨by decide +kernel, rfl⟩
set_option maxRecDepth 100000 in
theorem ii_rw_isOfPairs_6 : sm_D prog_4_method_8_code 6 3 9 (.getfield 21) := ⟨by decide +kernel, rfl⟩
set_option maxRecDepth 100000 in
theorem ii_rw_isOfPairs_9 : sm_D prog_4_method_8_code 9 3 12 (.if_icmp .ge 43) := ⟨by decide +kernel, rfl⟩
set_option maxRecDepth 100000 in
theorem ii_rw_isOfPairs_12 : sm_D prog_4_method_8_code 12 1 13 (.aload_n 0) := ⟨by decide +kernel, rfl⟩
set_option maxRecDepth 100000 in
theorem ii_rw_isOfPairs_13 : sm_D prog_4_method_8_code 13 3 16 (.getfield 15) := ⟨by decide +kernel, rfl⟩
set_option maxRecDepth 100000 in
theorem ii_rw_isOfPairs_16 : sm_D prog_4_method_8_code 16 1 17 (.iload_n 1) := ⟨by decide +kernel, rfl⟩
set_option maxRecDepth 100000 in
theorem ii_rw_isOfPairs_17 : sm_D prog_4_method_8_code 17 1 18 (.iaload) := ⟨by decide +kernel, rfl⟩
set_option maxRecDepth 100000 in
theorem ii_rw_isOfPairs_18 : sm_D prog_4_method_8_code 18 2 20 (.bipush 6) := ⟨by decide +kernel, rfl⟩
set_option maxRecDepth 100000 in
theorem ii_rw_isOfPairs_20 : sm_D prog_4_method_8_code 20 3 23 (.invokestatic 32) := ⟨by decide +kernel, rfl⟩
set_option maxRecDepth 100000 in
theorem ii_rw_isOfPairs_23 : sm_D prog_4_method_8_code 23 3 26 (.ifCond .ne 5) := ⟨by decide +kernel, rfl⟩
set_option maxRecDepth 100000 in
theorem ii_rw_isOfPairs_26 : sm_D prog_4_method_8_code 26 1 27 (.iconst 0) := ⟨by decide +kernel, rfl⟩
set_option maxRecDepth 100000 in
theorem ii_rw_isOfPairs_27 : sm_D prog_4_method_8_code 27 1 28 (.ireturn) := ⟨by decide +kernel, rfl⟩
set_option maxRecDepth 100000 in
theorem ii_rw_isOfPairs_28 : sm_D prog_4_method_8_code 28 1 29 (.aload_n 0) := ⟨by decide +kernel, rfl⟩
set_option maxRecDepth 100000 in
theorem ii_rw_isOfPairs_29 : sm_D prog_4_method_8_code 29 3 32 (.getfield 15) := ⟨by decide +kernel, rfl⟩
set_option maxRecDepth 100000 in
theorem ii_rw_isOfPairs_32 : sm_D prog_4_method_8_code 32 1 33 (.iload_n 1) := ⟨by decide +kernel, rfl⟩
set_option maxRecDepth 100000 in
theorem ii_rw_isOfPairs_33 : sm_D prog_4_method_8_code 33 1 34 (.iconst 1) := ⟨by decide +kernel, rfl⟩
set_option maxRecDepth 100000 in
theorem ii_rw_isOfPairs_34 : sm_D prog_4_method_8_code 34 1 35 (.iadd) := ⟨by decide +kernel, rfl⟩
set_option maxRecDepth 100000 in
theorem ii_rw_isOfPairs_35 : sm_D prog_4_method_8_code 35 1 36 (.iaload) := ⟨by decide +kernel, rfl⟩
set_option maxRecDepth 100000 in
theorem ii_rw_isOfPairs_36 : sm_D prog_4_method_8_code 36 2 38 (.bipush 6) := ⟨by decide +kernel, rfl⟩
set_option maxRecDepth 100000 in
theorem ii_rw_isOfPairs_38 : sm_D prog_4_method_8_code 38 3 41 (.invokestatic 32) := ⟨by decide +kernel, rfl⟩
set_option maxRecDepth 100000 in
theorem ii_rw_isOfPairs_41 : sm_D prog_4_method_8_code 41 3 44 (.ifCond .ne 5) := ⟨by decide +kernel, rfl⟩
set_option maxRecDepth 100000 in
theorem ii_rw_isOfPairs_44 : sm_D prog_4_method_8_code 44 1 45 (.iconst 0) := ⟨by decide +kernel, rfl⟩
set_option maxRecDepth 100000 in
theorem ii_rw_isOfPairs_45 : sm_D prog_4_method_8_code 45 1 46 (.ireturn) := ⟨by decide +kernel, rfl⟩
set_option maxRecDepth 100000 in
theorem ii_rw_isOfPairs_46 : sm_D prog_4_method_8_code 46 3 49 (.iinc 1 2) := ⟨by decide +kernel, rfl⟩
set_option maxRecDepth 100000 in
theorem ii_rw_isOfPairs_49 : sm_D prog_4_method_8_code 49 3 52 (.goto (-47)) := ⟨by decide +kernel, rfl⟩
set_option maxRecDepth 100000 in
theorem ii_rw_isOfPairs_52 : sm_D prog_4_method_8_code 52 1 53 (.iconst 1) := ⟨by decide +kernel, rfl⟩
set_option maxRecDepth 100000 in
theorem ii_rw_isOfPairs_53 : sm_D prog_4_method_8_code 53 1 54 (.ireturn) := ⟨by decide +kernel, rfl⟩
noncomputable def ff_rw_isOfPairs_2_b  (self2 : Nat → Int32 → sm_Mem → sm_R) (a0 : Nat) (a1 : Int32) (w : sm_Mem) : sm_R := (Option.bind (sm_gI w a0 2 1) fun x1 => (if x1 ≤ (a1 + (1 : Int32)) then (some (.int (1 : Int32), w)) else (Option.bind (sm_fk a0 2 0 2) fun r2 => (Option.bind (sm_rds w r2 a1) fun x3 => (sm_cI (ff_ho_isWithin (x3) ((6 : Int32)) w) fun x4 w5 => (if x4 = (0 : Int32) then (some (.int (0 : Int32), w5)) else (Option.bind (sm_fk a0 2 0 2) fun r6 => (Option.bind (sm_rds w5 r6 (a1 + (1 : Int32))) fun x7 => (sm_cI (ff_ho_isWithin (x7) ((6 : Int32)) w5) fun x8 w9 => (if x8 = (0 : Int32) then (some (.int (0 : Int32), w9)) else self2 (a0) ((a1 + (2 : Int32))) w9))))))))))
noncomputable def ff_rw_isOfPairs_2_f  : Nat → Nat → Int32 → sm_Mem → sm_R
  | 0, _, _, _ => none
  | n + 1, a0, a1, w => ff_rw_isOfPairs_2_b  (ff_rw_isOfPairs_2_f  n) a0 a1 w
noncomputable def ff_rw_isOfPairs_2  (a0 : Nat) (a1 : Int32) (w : sm_Mem) : sm_R := ff_rw_isOfPairs_2_f  sm_N a0 a1 w
set_option maxHeartbeats 4000000 in
set_option maxRecDepth 100000 in
theorem ss_rw_isOfPairs_2_b {E : Nat × (Nat → Int32)}  (self2 : Nat → Int32 → sm_Mem → sm_R) (hself2 : ∀ (a0 : Nat) (a1 : Int32) (w : sm_Mem), sm_Sim E (mi_rw_isOfPairs) 2 [some (.ref a0), some (.int a1)] [] w (self2 a0 a1 w)) (a0 : Nat) (a1 : Int32) (w : sm_Mem) : sm_Sim E (mi_rw_isOfPairs) 2 [some (.ref a0), some (.int a1)] [] w (ff_rw_isOfPairs_2_b  self2 a0 a1 w) := by
  unfold ff_rw_isOfPairs_2_b
  refine sm_iload_n ii_rw_isOfPairs_2 rfl ?_
  refine sm_iconst (1 : Int32) ii_rw_isOfPairs_3 (by decide) ?_
  refine sm_iadd ii_rw_isOfPairs_4 ?_
  refine sm_aload_n ii_rw_isOfPairs_5 rfl ?_
  refine sm_getIs ii_rw_isOfPairs_6 fl_rw_21 (fun x1 => ?_)
  refine sm_icmp_ge 52 ii_rw_isOfPairs_9 (by decide) ?_ ?_
  · refine sm_iconst (1 : Int32) ii_rw_isOfPairs_52 (by decide) ?_
    exact sm_zret1 ii_rw_isOfPairs_53 rfl (by decide)
  · refine sm_aload_n ii_rw_isOfPairs_12 rfl ?_
    refine sm_getRs ii_rw_isOfPairs_13 fl_rw_15 (fun r2 => ?_)
    refine sm_iload_n ii_rw_isOfPairs_16 rfl ?_
    refine sm_ialds ii_rw_isOfPairs_17 (fun x3 => ?_)
    refine sm_bipush (6 : Int32) ii_rw_isOfPairs_18 (by decide) ?_
    refine sm_csI [.int x3, .int (6 : Int32)] [] rfl ii_rw_isOfPairs_20 ml_rw_32 (mf_ho_isWithin) (mv_ho_isWithin) (Nat.le_of_ble_eq_true rfl) rfl rfl rfl (mc_ho_isWithin (x3) ((6 : Int32)) w) (fun x4 w5 => ?_)
    refine sm_if_ne 28 ii_rw_isOfPairs_23 (by decide) ?_ ?_
    · refine sm_iconst (0 : Int32) ii_rw_isOfPairs_26 (by decide) ?_
      exact sm_zret1 ii_rw_isOfPairs_27 rfl (by decide)
    · refine sm_aload_n ii_rw_isOfPairs_28 rfl ?_
      refine sm_getRs ii_rw_isOfPairs_29 fl_rw_15 (fun r6 => ?_)
      refine sm_iload_n ii_rw_isOfPairs_32 rfl ?_
      refine sm_iconst (1 : Int32) ii_rw_isOfPairs_33 (by decide) ?_
      refine sm_iadd ii_rw_isOfPairs_34 ?_
      refine sm_ialds ii_rw_isOfPairs_35 (fun x7 => ?_)
      refine sm_bipush (6 : Int32) ii_rw_isOfPairs_36 (by decide) ?_
      refine sm_csI [.int x7, .int (6 : Int32)] [] rfl ii_rw_isOfPairs_38 ml_rw_32 (mf_ho_isWithin) (mv_ho_isWithin) (Nat.le_of_ble_eq_true rfl) rfl rfl rfl (mc_ho_isWithin (x7) ((6 : Int32)) w5) (fun x8 w9 => ?_)
      refine sm_if_ne 46 ii_rw_isOfPairs_41 (by decide) ?_ ?_
      · refine sm_iconst (0 : Int32) ii_rw_isOfPairs_44 (by decide) ?_
        exact sm_zret1 ii_rw_isOfPairs_45 rfl (by decide)
      · refine sm_iinc (a1 + (2 : Int32)) [some (.ref a0), some (.int (a1 + (2 : Int32)))] ii_rw_isOfPairs_46 rfl rfl rfl rfl ?_
        refine sm_goto 2 ii_rw_isOfPairs_49 (by decide) ?_
        exact hself2 (a0) ((a1 + (2 : Int32))) w9
set_option maxHeartbeats 4000000 in
set_option maxRecDepth 100000 in
theorem ss_rw_isOfPairs_2_f {E : Nat × (Nat → Int32)}  : ∀ (n : Nat) (a0 : Nat) (a1 : Int32) (w : sm_Mem), sm_Sim E (mi_rw_isOfPairs) 2 [some (.ref a0), some (.int a1)] [] w (ff_rw_isOfPairs_2_f  n a0 a1 w)
  | 0, _, _, _ => fun _ _ h => by cases h
  | n + 1, a0, a1, w => ss_rw_isOfPairs_2_b  _ (ss_rw_isOfPairs_2_f  n) a0 a1 w
set_option maxHeartbeats 4000000 in
set_option maxRecDepth 100000 in
theorem ss_rw_isOfPairs_2 {E : Nat × (Nat → Int32)}  (a0 : Nat) (a1 : Int32) (w : sm_Mem) : sm_Sim E (mi_rw_isOfPairs) 2 [some (.ref a0), some (.int a1)] [] w (ff_rw_isOfPairs_2  a0 a1 w) := ss_rw_isOfPairs_2_f  sm_N a0 a1 w
noncomputable def ff_rw_isOfPairs  (a0 : Nat) (w : sm_Mem) : sm_R := ff_rw_isOfPairs_2 (a0) ((0 : Int32)) w
set_option maxHeartbeats 4000000 in
set_option maxRecDepth 100000 in
theorem ss_rw_isOfPairs_0 {E : Nat × (Nat → Int32)}  (a0 : Nat) (w : sm_Mem) : sm_Sim E (mi_rw_isOfPairs) 0 [some (.ref a0), none] [] w (ff_rw_isOfPairs  a0 w) := by
  unfold ff_rw_isOfPairs
  refine sm_iconst (0 : Int32) ii_rw_isOfPairs_0 (by decide) ?_
  refine sm_istore_n [some (.ref a0), some (.int (0 : Int32))] ii_rw_isOfPairs_1 rfl rfl ?_
  exact ss_rw_isOfPairs_2 (a0) ((0 : Int32)) w
set_option maxHeartbeats 4000000 in
set_option maxRecDepth 100000 in
theorem mc_rw_isOfPairs {E : Nat × (Nat → Int32)} (a0 : Nat) (w : sm_Mem) : sm_MC E mi_rw_isOfPairs [.ref a0] w (ff_rw_isOfPairs a0 w) := sm_MC_of E (by decide +kernel) rfl (Nat.le_of_ble_eq_true rfl) (ss_rw_isOfPairs_0 a0 w)
abbrev mi_ho_refusalOfPairs : sm_MI := (⟨"HerOrders", "refusalOfPairs", "(I)I"⟩, prog_1_method_51_code, 2, (some .int), 3)
set_option maxRecDepth 100000 in
theorem mf_ho_refusalOfPairs : sm_MF mi_ho_refusalOfPairs 1 := ⟨List.mem_of_getElem? (i := 615) (by decide +kernel), List.mem_of_getElem? (i := 69) (by decide +kernel), ⟨by decide, by decide⟩, by decide +kernel⟩
set_option maxRecDepth 100000 in
theorem mv_ho_refusalOfPairs : sm_MFV mi_ho_refusalOfPairs := ⟨List.mem_of_getElem? (i := 614) (by decide +kernel), List.mem_of_getElem? (i := 40) (by decide +kernel)⟩
set_option maxRecDepth 100000 in
theorem ii_ho_refusalOfPairs_0 : sm_D prog_1_method_51_code 0 1 1 (.iload_n 1) := ⟨by decide +kernel, rfl⟩
set_option maxRecDepth 100000 in
theorem ii_ho_refusalOfPairs_1 : sm_D prog_1_method_51_code 1 2 3 (.bipush 6) := ⟨by decide +kernel, rfl⟩
set_option maxRecDepth 100000 in
theorem ii_ho_refusalOfPairs_3 : sm_D prog_1_method_51_code 3 3 6 (.invokestatic 81) := ⟨by decide +kernel, rfl⟩
set_option maxRecDepth 100000 in
theorem ii_ho_refusalOfPairs_6 : sm_D prog_1_method_51_code 6 3 9 (.ifCond .ne 5) := ⟨by decide +kernel, rfl⟩
set_option maxRecDepth 100000 in
theorem ii_ho_refusalOfPairs_9 : sm_D prog_1_method_51_code 9 1 10 (.iconst (-1)) := ⟨by decide +kernel, rfl⟩
set_option maxRecDepth 100000 in
theorem ii_ho_refusalOfPairs_10 : sm_D prog_1_method_51_code 10 1 11 (.ireturn) := ⟨by decide +kernel, rfl⟩
set_option maxRecDepth 100000 in
theorem ii_ho_refusalOfPairs_11 : sm_D prog_1_method_51_code 11 1 12 (.aload_n 0) := ⟨by decide +kernel, rfl⟩
set_option maxRecDepth 100000 in
theorem ii_ho_refusalOfPairs_12 : sm_D prog_1_method_51_code 12 3 15 (.getfield 31) := ⟨by decide +kernel, rfl⟩
set_option maxRecDepth 100000 in
theorem ii_ho_refusalOfPairs_15 : sm_D prog_1_method_51_code 15 3 18 (.getfield 115) := ⟨by decide +kernel, rfl⟩
set_option maxRecDepth 100000 in
theorem ii_ho_refusalOfPairs_18 : sm_D prog_1_method_51_code 18 3 21 (.ifCond .ne 6) := ⟨by decide +kernel, rfl⟩
set_option maxRecDepth 100000 in
theorem ii_ho_refusalOfPairs_21 : sm_D prog_1_method_51_code 21 2 23 (.bipush (-4)) := ⟨by decide +kernel, rfl⟩
set_option maxRecDepth 100000 in
theorem ii_ho_refusalOfPairs_23 : sm_D prog_1_method_51_code 23 1 24 (.ireturn) := ⟨by decide +kernel, rfl⟩
set_option maxRecDepth 100000 in
theorem ii_ho_refusalOfPairs_24 : sm_D prog_1_method_51_code 24 1 25 (.aload_n 0) := ⟨by decide +kernel, rfl⟩
set_option maxRecDepth 100000 in
theorem ii_ho_refusalOfPairs_25 : sm_D prog_1_method_51_code 25 3 28 (.getfield 11) := ⟨by decide +kernel, rfl⟩
set_option maxRecDepth 100000 in
theorem ii_ho_refusalOfPairs_28 : sm_D prog_1_method_51_code 28 1 29 (.iload_n 1) := ⟨by decide +kernel, rfl⟩
set_option maxRecDepth 100000 in
theorem ii_ho_refusalOfPairs_29 : sm_D prog_1_method_51_code 29 1 30 (.aaload) := ⟨by decide +kernel, rfl⟩
set_option maxRecDepth 100000 in
theorem ii_ho_refusalOfPairs_30 : sm_D prog_1_method_51_code 30 3 33 (.invokevirtual 89) := ⟨by decide +kernel, rfl⟩
set_option maxRecDepth 100000 in
theorem ii_ho_refusalOfPairs_33 : sm_D prog_1_method_51_code 33 3 36 (.ifCond .eq 12) := ⟨by decide +kernel, rfl⟩
set_option maxRecDepth 100000 in
theorem ii_ho_refusalOfPairs_36 : sm_D prog_1_method_51_code 36 1 37 (.aload_n 0) := ⟨by decide +kernel, rfl⟩
set_option maxRecDepth 100000 in
theorem ii_ho_refusalOfPairs_37 : sm_D prog_1_method_51_code 37 3 40 (.getfield 54) := ⟨by decide +kernel, rfl⟩
set_option maxRecDepth 100000 in
theorem ii_ho_refusalOfPairs_40 : sm_D prog_1_method_51_code 40 1 41 (.iconst 1) := ⟨by decide +kernel, rfl⟩
set_option maxRecDepth 100000 in
theorem ii_ho_refusalOfPairs_41 : sm_D prog_1_method_51_code 41 3 44 (.invokevirtual 85) := ⟨by decide +kernel, rfl⟩
set_option maxRecDepth 100000 in
theorem ii_ho_refusalOfPairs_44 : sm_D prog_1_method_51_code 44 1 45 (.ireturn) := ⟨by decide +kernel, rfl⟩
set_option maxRecDepth 100000 in
theorem ii_ho_refusalOfPairs_45 : sm_D prog_1_method_51_code 45 1 46 (.aload_n 0) := ⟨by decide +kernel, rfl⟩
set_option maxRecDepth 100000 in
theorem ii_ho_refusalOfPairs_46 : sm_D prog_1_method_51_code 46 3 49 (.getfield 11) := ⟨by decide +kernel, rfl⟩
set_option maxRecDepth 100000 in
theorem ii_ho_refusalOfPairs_49 : sm_D prog_1_method_51_code 49 1 50 (.iload_n 1) := ⟨by decide +kernel, rfl⟩
set_option maxRecDepth 100000 in
theorem ii_ho_refusalOfPairs_50 : sm_D prog_1_method_51_code 50 1 51 (.aaload) := ⟨by decide +kernel, rfl⟩
set_option maxRecDepth 100000 in
theorem ii_ho_refusalOfPairs_51 : sm_D prog_1_method_51_code 51 3 54 (.getfield 78) := ⟨by decide +kernel, rfl⟩
set_option maxRecDepth 100000 in
theorem ii_ho_refusalOfPairs_54 : sm_D prog_1_method_51_code 54 1 55 (.iconst 2) := ⟨by decide +kernel, rfl⟩
set_option maxRecDepth 100000 in
theorem ii_ho_refusalOfPairs_55 : sm_D prog_1_method_51_code 55 1 56 (.irem) := ⟨by decide +kernel, rfl⟩
set_option maxRecDepth 100000 in
theorem ii_ho_refusalOfPairs_56 : sm_D prog_1_method_51_code 56 3 59 (.ifCond .ne 17) := ⟨by decide +kernel, rfl⟩
set_option maxRecDepth 100000 in
theorem ii_ho_refusalOfPairs_59 : sm_D prog_1_method_51_code 59 1 60 (.aload_n 0) := ⟨by decide +kernel, rfl⟩
set_option maxRecDepth 100000 in
theorem ii_ho_refusalOfPairs_60 : sm_D prog_1_method_51_code 60 3 63 (.getfield 11) := ⟨by decide +kernel, rfl⟩
set_option maxRecDepth 100000 in
theorem ii_ho_refusalOfPairs_63 : sm_D prog_1_method_51_code 63 1 64 (.iload_n 1) := ⟨by decide +kernel, rfl⟩
set_option maxRecDepth 100000 in
theorem ii_ho_refusalOfPairs_64 : sm_D prog_1_method_51_code 64 1 65 (.aaload) := ⟨by decide +kernel, rfl⟩
set_option maxRecDepth 100000 in
theorem ii_ho_refusalOfPairs_65 : sm_D prog_1_method_51_code 65 3 68 (.getfield 78) := ⟨by decide +kernel, rfl⟩
set_option maxRecDepth 100000 in
theorem ii_ho_refusalOfPairs_68 : sm_D prog_1_method_51_code 68 2 70 (.bipush 10) := ⟨by decide +kernel, rfl⟩
set_option maxRecDepth 100000 in
theorem ii_ho_refusalOfPairs_70 : sm_D prog_1_method_51_code 70 3 73 (.if_icmp .le 12) := ⟨by decide +kernel, rfl⟩
set_option maxRecDepth 100000 in
theorem ii_ho_refusalOfPairs_73 : sm_D prog_1_method_51_code 73 1 74 (.aload_n 0) := ⟨by decide +kernel, rfl⟩
set_option maxRecDepth 100000 in
theorem ii_ho_refusalOfPairs_74 : sm_D prog_1_method_51_code 74 3 77 (.getfield 54) := ⟨by decide +kernel, rfl⟩
set_option maxRecDepth 100000 in
theorem ii_ho_refusalOfPairs_77 : sm_D prog_1_method_51_code 77 1 78 (.iconst 5) := ⟨by decide +kernel, rfl⟩
set_option maxRecDepth 100000 in
theorem ii_ho_refusalOfPairs_78 : sm_D prog_1_method_51_code 78 3 81 (.invokevirtual 85) := ⟨by decide +kernel, rfl⟩
set_option maxRecDepth 100000 in
theorem ii_ho_refusalOfPairs_81 : sm_D prog_1_method_51_code 81 1 82 (.ireturn) := ⟨by decide +kernel, rfl⟩
set_option maxRecDepth 100000 in
theorem ii_ho_refusalOfPairs_82 : sm_D prog_1_method_51_code 82 1 83 (.aload_n 0) := ⟨by decide +kernel, rfl⟩
set_option maxRecDepth 100000 in
theorem ii_ho_refusalOfPairs_83 : sm_D prog_1_method_51_code 83 3 86 (.getfield 11) := ⟨by decide +kernel, rfl⟩
set_option maxRecDepth 100000 in
theorem ii_ho_refusalOfPairs_86 : sm_D prog_1_method_51_code 86 1 87 (.iload_n 1) := ⟨by decide +kernel, rfl⟩
set_option maxRecDepth 100000 in
theorem ii_ho_refusalOfPairs_87 : sm_D prog_1_method_51_code 87 1 88 (.aaload) := ⟨by decide +kernel, rfl⟩
set_option maxRecDepth 100000 in
theorem ii_ho_refusalOfPairs_88 : sm_D prog_1_method_51_code 88 3 91 (.invokevirtual 328) := ⟨by decide +kernel, rfl⟩
set_option maxRecDepth 100000 in
theorem ii_ho_refusalOfPairs_91 : sm_D prog_1_method_51_code 91 3 94 (.ifCond .eq 7) := ⟨by decide +kernel, rfl⟩
set_option maxRecDepth 100000 in
theorem ii_ho_refusalOfPairs_94 : sm_D prog_1_method_51_code 94 1 95 (.iconst 0) := ⟨by decide +kernel, rfl⟩
set_option maxRecDepth 100000 in
theorem ii_ho_refusalOfPairs_95 : sm_D prog_1_method_51_code 95 3 98 (.goto 11) := ⟨by decide +kernel, rfl⟩
set_option maxRecDepth 100000 in
theorem ii_ho_refusalOfPairs_98 : sm_D prog_1_method_51_code 98 1 99 (.aload_n 0) := ⟨by decide +kernel, rfl⟩
set_option maxRecDepth 100000 in
theorem ii_ho_refusalOfPairs_99 : sm_D prog_1_method_51_code 99 3 102 (.getfield 54) := ⟨by decide +kernel, rfl⟩
set_option maxRecDepth 100000 in
theorem ii_ho_refusalOfPairs_102 : sm_D prog_1_method_51_code 102 1 103 (.iconst 3) := ⟨by decide +kernel, rfl⟩
set_option maxRecDepth 100000 in
theorem ii_ho_refusalOfPairs_103 : sm_D prog_1_method_51_code 103 3 106 (.invokevirtual 85) := ⟨by decide +kernel, rfl⟩
set_option maxRecDepth 100000 in
theorem ii_ho_refusalOfPairs_106 : sm_D prog_1_method_51_code 106 1 107 (.ireturn) := ⟨by decide +kernel, rfl⟩
noncomputable def ff_ho_refusalOfPairs_73   (w : sm_Mem) : sm_R := (sm_cI (ff_td_refuse ((5 : Int32)) w) fun x1 w2 => (some (.int x1, w2)))
set_option maxHeartbeats 4000000 in
set_option maxRecDepth 100000 in
theorem ss_ho_refusalOfPairs_73 {E : Nat × (Nat → Int32)}   (w : sm_Mem) : sm_Sim E (mi_ho_refusalOfPairs) 73 [some (.ref 0), none] [] w (ff_ho_refusalOfPairs_73   w) := by
  unfold ff_ho_refusalOfPairs_73
  refine sm_aload_n ii_ho_refusalOfPairs_73 rfl ?_
  refine sm_getR 60 ii_ho_refusalOfPairs_74 fl_ho_54 (k := 0) rfl ?_
  refine sm_iconst (5 : Int32) ii_ho_refusalOfPairs_77 (by decide) ?_
  refine sm_cvI [.int (5 : Int32)] [] rfl ii_ho_refusalOfPairs_78 ml_ho_85 (mf_td_refuse) (mv_td_refuse) (Nat.le_of_ble_eq_true rfl) rfl 3 rfl rfl rfl rfl (mc_td_refuse ((5 : Int32)) w) (fun x1 w2 => ?_)
  exact sm_iret ii_ho_refusalOfPairs_81 rfl
noncomputable def ff_ho_refusalOfPairs  (a1 : Int32) (w : sm_Mem) : sm_R := (sm_cI (ff_ho_isWithin (a1) ((6 : Int32)) w) fun x3 w4 => (if x3 = (0 : Int32) then (some (.int (-1 : Int32), w4)) else (if (w4.1 36 0) = (0 : Int32) then (some (.int (-4 : Int32), w4)) else (Option.bind (sm_rr 1 a1) fun r5 => (sm_cI (sm_rc r5 2 (ff_rw_isMissing (r5) w4)) fun x6 w7 => (if x6 = (0 : Int32) then (Option.bind (sm_rr 1 a1) fun r8 => (Option.bind (sm_gI w7 r8 2 1) fun x9 => (if (2 : Int32) = (0 : Int32) then none else (if (x9 - x9 / (2 : Int32) * (2 : Int32)) = (0 : Int32) then (Option.bind (sm_rr 1 a1) fun r11 => (Option.bind (sm_gI w7 r11 2 1) fun x12 => (if x12 ≤ (10 : Int32) then (Option.bind (sm_rr 1 a1) fun r13 => (sm_cI (sm_rc r13 2 (ff_rw_isOfPairs (r13) w7)) fun x14 w15 => (if x14 = (0 : Int32) then (sm_cI (ff_td_refuse ((3 : Int32)) w15) fun x16 w17 => (some (.int x16, w17))) else (some (.int (0 : Int32), w15))))) else ff_ho_refusalOfPairs_73  w7))) else ff_ho_refusalOfPairs_73  w7)))) else (sm_cI (ff_td_refuse ((1 : Int32)) w7) fun x18 w19 => (some (.int x18, w19)))))))))
set_option maxHeartbeats 4000000 in
set_option maxRecDepth 100000 in
theorem ss_ho_refusalOfPairs_0 {E : Nat × (Nat → Int32)}  (a1 : Int32) (w : sm_Mem) : sm_Sim E (mi_ho_refusalOfPairs) 0 [some (.ref 0), some (.int a1)] [] w (ff_ho_refusalOfPairs  a1 w) := by
  unfold ff_ho_refusalOfPairs
  refine sm_iload_n ii_ho_refusalOfPairs_0 rfl ?_
  refine sm_bipush (6 : Int32) ii_ho_refusalOfPairs_1 (by decide) ?_
  refine sm_csI [.int a1, .int (6 : Int32)] [] rfl ii_ho_refusalOfPairs_3 ml_ho_81 (mf_ho_isWithin) (mv_ho_isWithin) (Nat.le_of_ble_eq_true rfl) rfl rfl rfl (mc_ho_isWithin (a1) ((6 : Int32)) w) (fun x3 w4 => ?_)
  refine sm_if_ne 11 ii_ho_refusalOfPairs_6 (by decide) ?_ ?_
  · refine sm_iconst (-1 : Int32) ii_ho_refusalOfPairs_9 (by decide) ?_
    exact sm_iret ii_ho_refusalOfPairs_10 rfl
  · refine sm_aload_n ii_ho_refusalOfPairs_11 rfl ?_
    refine sm_getR 36 ii_ho_refusalOfPairs_12 fl_ho_31 (k := 0) rfl ?_
    refine sm_getI ii_ho_refusalOfPairs_15 fl_ho_115 (k := 36) rfl ?_
    refine sm_if_ne 24 ii_ho_refusalOfPairs_18 (by decide) ?_ ?_
    · refine sm_bipush (-4 : Int32) ii_ho_refusalOfPairs_21 (by decide) ?_
      exact sm_iret ii_ho_refusalOfPairs_23 rfl
    · refine sm_aload_n ii_ho_refusalOfPairs_24 rfl ?_
      refine sm_getR 1 ii_ho_refusalOfPairs_25 fl_ho_11 (k := 0) rfl ?_
      refine sm_iload_n ii_ho_refusalOfPairs_28 rfl ?_
      refine sm_aald ii_ho_refusalOfPairs_29 (fun r5 => ?_)
      refine sm_dvI [] [] rfl ii_ho_refusalOfPairs_30 ml_ho_89 (mf_rw_isMissing) (mv_rw_isMissing) (Nat.le_of_ble_eq_true rfl) rfl 2 rfl rfl rfl (mc_rw_isMissing (r5) w4) (fun x6 w7 => ?_)
      refine sm_if_eq 45 ii_ho_refusalOfPairs_33 (by decide) ?_ ?_
      · refine sm_aload_n ii_ho_refusalOfPairs_45 rfl ?_
        refine sm_getR 1 ii_ho_refusalOfPairs_46 fl_ho_11 (k := 0) rfl ?_
        refine sm_iload_n ii_ho_refusalOfPairs_49 rfl ?_
        refine sm_aald ii_ho_refusalOfPairs_50 (fun r8 => ?_)
        refine sm_getIs ii_ho_refusalOfPairs_51 fl_ho_78 (fun x9 => ?_)
        refine sm_iconst (2 : Int32) ii_ho_refusalOfPairs_54 (by decide) ?_
        refine sm_irem ii_ho_refusalOfPairs_55 ?_
        refine sm_if_ne 73 ii_ho_refusalOfPairs_56 (by decide) ?_ ?_
        · refine sm_aload_n ii_ho_refusalOfPairs_59 rfl ?_
          refine sm_getR 1 ii_ho_refusalOfPairs_60 fl_ho_11 (k := 0) rfl ?_
          refine sm_iload_n ii_ho_refusalOfPairs_63 rfl ?_
          refine sm_aald ii_ho_refusalOfPairs_64 (fun r11 => ?_)
          refine sm_getIs ii_ho_refusalOfPairs_65 fl_ho_78 (fun x12 => ?_)
          refine sm_bipush (10 : Int32) ii_ho_refusalOfPairs_68 (by decide) ?_
          refine sm_icmp_le 82 ii_ho_refusalOfPairs_70 (by decide) ?_ ?_
          · refine sm_aload_n ii_ho_refusalOfPairs_82 rfl ?_
            refine sm_getR 1 ii_ho_refusalOfPairs_83 fl_ho_11 (k := 0) rfl ?_
            refine sm_iload_n ii_ho_refusalOfPairs_86 rfl ?_
            refine sm_aald ii_ho_refusalOfPairs_87 (fun r13 => ?_)
            refine sm_dvI [] [] rfl ii_ho_refusalOfPairs_88 ml_ho_328 (mf_rw_isOfPairs) (mv_rw_isOfPairs) (Nat.le_of_ble_eq_true rfl) rfl 2 rfl rfl rfl (mc_rw_isOfPairs (r13) w7) (fun x14 w15 => ?_)
            refine sm_if_eq 98 ii_ho_refusalOfPairs_91 (by decide) ?_ ?_
            · refine sm_aload_n ii_ho_refusalOfPairs_98 rfl ?_
              refine sm_getR 60 ii_ho_refusalOfPairs_99 fl_ho_54 (k := 0) rfl ?_
              refine sm_iconst (3 : Int32) ii_ho_refusalOfPairs_102 (by decide) ?_
              refine sm_cvI [.int (3 : Int32)] [] rfl ii_ho_refusalOfPairs_103 ml_ho_85 (mf_td_refuse) (mv_td_refuse) (Nat.le_of_ble_eq_true rfl) rfl 3 rfl rfl rfl rfl (mc_td_refuse ((3 : Int32)) w15) (fun x16 w17 => ?_)
              exact sm_iret ii_ho_refusalOfPairs_106 rfl
            · refine sm_iconst (0 : Int32) ii_ho_refusalOfPairs_94 (by decide) ?_
              refine sm_goto 106 ii_ho_refusalOfPairs_95 (by decide) ?_
              exact sm_iret ii_ho_refusalOfPairs_106 rfl
          · refine sm_msk [true, false] [some (.ref 0), none] rfl ?_
            exact ss_ho_refusalOfPairs_73  w7
        · refine sm_msk [true, false] [some (.ref 0), none] rfl ?_
          exact ss_ho_refusalOfPairs_73  w7
      · refine sm_aload_n ii_ho_refusalOfPairs_36 rfl ?_
        refine sm_getR 60 ii_ho_refusalOfPairs_37 fl_ho_54 (k := 0) rfl ?_
        refine sm_iconst (1 : Int32) ii_ho_refusalOfPairs_40 (by decide) ?_
        refine sm_cvI [.int (1 : Int32)] [] rfl ii_ho_refusalOfPairs_41 ml_ho_85 (mf_td_refuse) (mv_td_refuse) (Nat.le_of_ble_eq_true rfl) rfl 3 rfl rfl rfl rfl (mc_td_refuse ((1 : Int32)) w7) (fun x18 w19 => ?_)
        exact sm_iret ii_ho_refusalOfPairs_44 rfl
set_option maxHeartbeats 4000000 in
set_option maxRecDepth 100000 in
theorem mc_ho_refusalOfPairs {E : Nat × (Nat → Int32)} (a1 : Int32) (w : sm_Mem) : sm_MC E mi_ho_refusalOfPairs [.ref 0, .int a1] w (ff_ho_refusalOfPairs a1 w) := sm_MC_of E (by decide +kernel) rfl (Nat.le_of_ble_eq_true rfl) (ss_ho_refusalOfPairs_0 a1 w)
abbrev mi_wy_runPairs : sm_MI := (⟨"HerOrders$Ways", "runPairs", "(LHerOrders$Row;)V"⟩, prog_7_method_3_code, 3, none, 14)
set_option maxRecDepth 100000 in
theorem mf_wy_runPairs : sm_MF mi_wy_runPairs 1 := ⟨List.mem_of_getElem? (i := 623) (by decide +kernel), List.mem_of_getElem? (i := 74) (by decide +kernel), ⟨by decide, by decide⟩, by decide +kernel⟩
set_option maxRecDepth 100000 in
theorem mv_wy_runPairs : sm_MFV mi_wy_runPairs := ⟨List.mem_of_getElem? (i := 622) (by decide +kernel), List.mem_of_getElem? (i := 42) (by decide +kernel)⟩
set_option maxRecDepth 100000 in
theorem ii_wy_runPairs_0 : sm_D prog_7_method_3_code 0 1 1 (.aload_n 0) := ⟨by decide +kernel, rfl⟩
set_option maxRecDepth 100000 in
theorem ii_wy_runPairs_1 : sm_D prog_7_method_3_code 1 1 2 (.iconst 0) := ⟨by decide +kernel, rfl⟩
set_option maxRecDepth 100000 in
theorem ii_wy_runPairs_2 : sm_D prog_7_method_3_code 2 1 3 (.aload_n 1) := ⟨by decide +kernel, rfl⟩
set_option maxRecDepth 100000 in
theorem ii_wy_runPairs_3 : sm_D prog_7_method_3_code 3 3 6 (.getfield 34) := ⟨by decide +kernel, rfl⟩
set_option maxRecDepth 100000 in
theorem ii_wy_runPairs_6 : sm_D prog_7_method_3_code 6 1 7 (.iconst 2) := ⟨by decide +kernel, rfl⟩
set_option maxRecDepth 100000 in
theorem ii_wy_runPairs_7 : sm_D prog_7_method_3_code 7 1 8 (.idiv) := ⟨by decide +kernel, rfl⟩
set_option maxRecDepth 100000 in
theorem ii_wy_runPairs_8 : sm_D prog_7_method_3_code 8 1 9 (.iconst 5) := ⟨by decide +kernel, rfl⟩
set_option maxRecDepth 100000 in
theorem ii_wy_runPairs_9 : sm_D prog_7_method_3_code 9 3 12 (.invokestatic 40) := ⟨by decide +kernel, rfl⟩
set_option maxRecDepth 100000 in
theorem ii_wy_runPairs_12 : sm_D prog_7_method_3_code 12 3 15 (.invokestatic 46) := ⟨by decide +kernel, rfl⟩
set_option maxRecDepth 100000 in
theorem ii_wy_runPairs_15 : sm_D prog_7_method_3_code 15 3 18 (.putfield 49) := ⟨by decide +kernel, rfl⟩
set_option maxRecDepth 100000 in
theorem ii_wy_runPairs_18 : sm_D prog_7_method_3_code 18 1 19 (.iconst 0) := ⟨by decide +kernel, rfl⟩
set_option maxRecDepth 100000 in
theorem ii_wy_runPairs_19 : sm_D prog_7_method_3_code 19 1 20 (.istore_n 2) := ⟨by decide +kernel, rfl⟩
set_option maxRecDepth 100000 in
theorem ii_wy_runPairs_20 : sm_D prog_7_method_3_code 20 1 21 (.iload_n 2) := ⟨by decide +kernel, rfl⟩
set_option maxRecDepth 100000 in
theorem ii_wy_runPairs_21 : sm_D prog_7_method_3_code 21 1 22 (.aload_n 0) := ⟨by decide +kernel, rfl⟩
set_option maxRecDepth 100000 in
theorem ii_wy_runPairs_22 : sm_D prog_7_method_3_code 22 3 25 (.getfield 49) := ⟨by decide +kernel, rfl⟩
set_option maxRecDepth 100000 in
theorem ii_wy_runPairs_25 : sm_D prog_7_method_3_code 25 3 28 (.if_icmp .ge 39) := ⟨by decide +kernel, rfl⟩
set_option maxRecDepth 100000 in
theorem ii_wy_runPairs_28 : sm_D prog_7_method_3_code 28 1 29 (.aload_n 0) := ⟨by decide +kernel, rfl⟩
set_option maxRecDepth 100000 in
theorem ii_wy_runPairs_29 : sm_D prog_7_method_3_code 29 3 32 (.getfield 15) := ⟨by decide +kernel, rfl⟩
set_option maxRecDepth 100000 in
theorem ii_wy_runPairs_32 : sm_D prog_7_method_3_code 32 1 33 (.iload_n 2) := ⟨by decide +kernel, rfl⟩
set_option maxRecDepth 100000 in
theorem ii_wy_runPairs_33 : sm_D prog_7_method_3_code 33 1 34 (.aload_n 1) := ⟨by decide +kernel, rfl⟩
set_option maxRecDepth 100000 in
theorem ii_wy_runPairs_34 : sm_D prog_7_method_3_code 34 3 37 (.getfield 52) := ⟨by decide +kernel, rfl⟩
set_option maxRecDepth 100000 in
theorem ii_wy_runPairs_37 : sm_D prog_7_method_3_code 37 1 38 (.iconst 2) := ⟨by decide +kernel, rfl⟩
set_option maxRecDepth 100000 in
theorem ii_wy_runPairs_38 : sm_D prog_7_method_3_code 38 1 39 (.iload_n 2) := ⟨by decide +kernel, rfl⟩
set_option maxRecDepth 100000 in
theorem ii_wy_runPairs_39 : sm_D prog_7_method_3_code 39 1 40 (.imul) := ⟨by decide +kernel, rfl⟩
set_option maxRecDepth 100000 in
theorem ii_wy_runPairs_40 : sm_D prog_7_method_3_code 40 1 41 (.iaload) := ⟨by decide +kernel, rfl⟩
set_option maxRecDepth 100000 in
theorem ii_wy_runPairs_41 : sm_D prog_7_method_3_code 41 1 42 (.iastore) := ⟨by decide +kernel, rfl⟩
set_option maxRecDepth 100000 in
theorem ii_wy_runPairs_42 : sm_D prog_7_method_3_code 42 1 43 (.aload_n 0) := ⟨by decide +kernel, rfl⟩
set_option maxRecDepth 100000 in
theorem ii_wy_runPairs_43 : sm_D prog_7_method_3_code 43 3 46 (.getfield 19) := ⟨by decide +kernel, rfl⟩
set_option maxRecDepth 100000 in
theorem ii_wy_runPairs_46 : sm_D prog_7_method_3_code 46 1 47 (.iload_n 2) := ⟨by decide +kernel, rfl⟩
set_option maxRecDepth 100000 in
theorem ii_wy_runPairs_47 : sm_D prog_7_method_3_code 47 1 48 (.aload_n 1) := ⟨by decide +kernel, rfl⟩
set_option maxRecDepth 100000 in
theorem ii_wy_runPairs_48 : sm_D prog_7_method_3_code 48 3 51 (.getfield 52) := ⟨by decide +kernel, rfl⟩
set_option maxRecDepth 100000 in
theorem ii_wy_runPairs_51 : sm_D prog_7_method_3_code 51 1 52 (.iconst 2) := ⟨by decide +kernel, rfl⟩
set_option maxRecDepth 100000 in
theorem ii_wy_runPairs_52 : sm_D prog_7_method_3_code 52 1 53 (.iload_n 2) := ⟨by decide +kernel, rfl⟩
set_option maxRecDepth 100000 in
theorem ii_wy_runPairs_53 : sm_D prog_7_method_3_code 53 1 54 (.imul) := ⟨by decide +kernel, rfl⟩
set_option maxRecDepth 100000 in
theorem ii_wy_runPairs_54 : sm_D prog_7_method_3_code 54 1 55 (.iconst 1) := ⟨by decide +kernel, rfl⟩
set_option maxRecDepth 100000 in
theorem ii_wy_runPairs_55 : sm_D prog_7_method_3_code 55 1 56 (.iadd) := ⟨by decide +kernel, rfl⟩
set_option maxRecDepth 100000 in
theorem ii_wy_runPairs_56 : sm_D prog_7_method_3_code 56 1 57 (.iaload) := ⟨by decide +kernel, rfl⟩
set_option maxRecDepth 100000 in
theorem ii_wy_runPairs_57 : sm_D prog_7_method_3_code 57 1 58 (.iastore) := ⟨by decide +kernel, rfl⟩
set_option maxRecDepth 100000 in
theorem ii_wy_runPairs_58 : sm_D prog_7_method_3_code 58 3 61 (.iinc 2 1) := ⟨by decide +kernel, rfl⟩
set_option maxRecDepth 100000 in
theorem ii_wy_runPairs_61 : sm_D prog_7_method_3_code 61 3 64 (.goto (-41)) := ⟨by decide +kernel, rfl⟩
set_option maxRecDepth 100000 in
theorem ii_wy_runPairs_64 : sm_D prog_7_method_3_code 64 1 65 (.aload_n 0) := ⟨by decide +kernel, rfl⟩
set_option maxRecDepth 100000 in
theorem ii_wy_runPairs_65 : sm_D prog_7_method_3_code 65 2 67 (.bipush (-9)) := ⟨by decide +kernel, rfl⟩
set_option maxRecDepth 100000 in
theorem ii_wy_runPairs_67 : sm_D prog_7_method_3_code 67 3 70 (.invokevirtual 55) := ⟨by decide +kernel, rfl⟩
set_option maxRecDepth 100000 in
theorem ii_wy_runPairs_70 : sm_D prog_7_method_3_code 70 1 71 (.aload_n 0) := ⟨by decide +kernel, rfl⟩
set_option maxRecDepth 100000 in
theorem ii_wy_runPairs_71 : sm_D prog_7_method_3_code 71 1 72 (.iconst 0) := ⟨by decide +kernel, rfl⟩
set_option maxRecDepth 100000 in
theorem ii_wy_runPairs_72 : sm_D prog_7_method_3_code 72 1 73 (.iconst 0) := ⟨by decide +kernel, rfl⟩
set_option maxRecDepth 100000 in
theorem ii_wy_runPairs_73 : sm_D prog_7_method_3_code 73 3 76 (.invokevirtual 59) := ⟨by decide +kernel, rfl⟩
set_option maxRecDepth 100000 in
theorem ii_wy_runPairs_76 : sm_D prog_7_method_3_code 76 1 77 (.return_) := ⟨by decide +kernel, rfl⟩
noncomputable def ff_wy_runPairs_20_b  (self20 : Nat → Int32 → sm_Mem → sm_R) (a1 : Nat) (a2 : Int32) (w : sm_Mem) : sm_R := (if (w.1 49 3) ≤ a2 then (sm_cV (ff_wy_clear ((-9 : Int32)) w) fun w2 => (sm_cV (ff_wy_goOn 8 ((0 : Int32)) ((0 : Int32)) w2) fun w4 => (some (.null, w4)))) else (Option.bind (sm_fk a1 2 0 2) fun r5 => (Option.bind (sm_rds w r5 ((2 : Int32) * a2)) fun x6 => (Option.bind (sm_wr w 50 5 a2 x6) fun w7 => (Option.bind (sm_fk a1 2 0 2) fun r8 => (Option.bind (sm_rds w7 r8 (((2 : Int32) * a2) + (1 : Int32))) fun x9 => (Option.bind (sm_wr w7 51 5 a2 x9) fun w10 => self20 (a1) ((a2 + (1 : Int32))) w10)))))))
noncomputable def ff_wy_runPairs_20_f  : Nat → Nat → Int32 → sm_Mem → sm_R
  | 0, _, _, _ => none
  | n + 1, a1, a2, w => ff_wy_runPairs_20_b  (ff_wy_runPairs_20_f  n) a1 a2 w
noncomputable def ff_wy_runPairs_20  (a1 : Nat) (a2 : Int32) (w : sm_Mem) : sm_R := ff_wy_runPairs_20_f  sm_N a1 a2 w
set_option maxHeartbeats 4000000 in
set_option maxRecDepth 100000 in
theorem ss_wy_runPairs_20_b {E : Nat × (Nat → Int32)}  (self20 : Nat → Int32 → sm_Mem → sm_R) (hself20 : ∀ (a1 : Nat) (a2 : Int32) (w : sm_Mem), sm_Sim E (mi_wy_runPairs) 20 [some (.ref 49), some (.ref a1), some (.int a2)] [] w (self20 a1 a2 w)) (a1 : Nat) (a2 : Int32) (w : sm_Mem) : sm_Sim E (mi_wy_runPairs) 20 [some (.ref 49), some (.ref a1), some (.int a2)] [] w (ff_wy_runPairs_20_b  self20 a1 a2 w) := by
  unfold ff_wy_runPairs_20_b
  refine sm_iload_n ii_wy_runPairs_20 rfl ?_
  refine sm_aload_n ii_wy_runPairs_21 rfl ?_
  refine sm_getI ii_wy_runPairs_22 fl_wy_49 (k := 49) rfl ?_
  refine sm_icmp_ge 64 ii_wy_runPairs_25 (by decide) ?_ ?_
  · refine sm_aload_n ii_wy_runPairs_64 rfl ?_
    refine sm_bipush (-9 : Int32) ii_wy_runPairs_65 (by decide) ?_
    refine sm_cvV [.int (-9 : Int32)] [] rfl ii_wy_runPairs_67 ml_wy_55 (mf_wy_clear) (mv_wy_clear) (Nat.le_of_ble_eq_true rfl) rfl 5 rfl rfl rfl rfl (mc_wy_clear ((-9 : Int32)) w) (fun w2 => ?_)
    refine sm_aload_n ii_wy_runPairs_70 rfl ?_
    refine sm_iconst (0 : Int32) ii_wy_runPairs_71 (by decide) ?_
    refine sm_iconst (0 : Int32) ii_wy_runPairs_72 (by decide) ?_
    refine sm_cvV [.int (0 : Int32), .int (0 : Int32)] [] rfl ii_wy_runPairs_73 ml_wy_59 (mf_wy_goOn 13) (mv_wy_goOn 13) (Nat.le_of_ble_eq_true rfl) rfl 5 rfl rfl rfl rfl (mc_wy_goOn 8 ((0 : Int32)) ((0 : Int32)) w2) (fun w4 => ?_)
    exact sm_vret ii_wy_runPairs_76 rfl
  · refine sm_aload_n ii_wy_runPairs_28 rfl ?_
    refine sm_getR 50 ii_wy_runPairs_29 fl_wy_15 (k := 49) rfl ?_
    refine sm_iload_n ii_wy_runPairs_32 rfl ?_
    refine sm_aload_n ii_wy_runPairs_33 rfl ?_
    refine sm_getRs ii_wy_runPairs_34 fl_wy_52 (fun r5 => ?_)
    refine sm_iconst (2 : Int32) ii_wy_runPairs_37 (by decide) ?_
    refine sm_iload_n ii_wy_runPairs_38 rfl ?_
    refine sm_imul ii_wy_runPairs_39 ?_
    refine sm_ialds ii_wy_runPairs_40 (fun x6 => ?_)
    refine sm_iast ii_wy_runPairs_41 (k := 50) rfl (fun w7 => ?_)
    refine sm_aload_n ii_wy_runPairs_42 rfl ?_
    refine sm_getR 51 ii_wy_runPairs_43 fl_wy_19 (k := 49) rfl ?_
    refine sm_iload_n ii_wy_runPairs_46 rfl ?_
    refine sm_aload_n ii_wy_runPairs_47 rfl ?_
    refine sm_getRs ii_wy_runPairs_48 fl_wy_52 (fun r8 => ?_)
    refine sm_iconst (2 : Int32) ii_wy_runPairs_51 (by decide) ?_
    refine sm_iload_n ii_wy_runPairs_52 rfl ?_
    refine sm_imul ii_wy_runPairs_53 ?_
    refine sm_iconst (1 : Int32) ii_wy_runPairs_54 (by decide) ?_
    refine sm_iadd ii_wy_runPairs_55 ?_
    refine sm_ialds ii_wy_runPairs_56 (fun x9 => ?_)
    refine sm_iast ii_wy_runPairs_57 (k := 51) rfl (fun w10 => ?_)
    refine sm_iinc (a2 + (1 : Int32)) [some (.ref 49), some (.ref a1), some (.int (a2 + (1 : Int32)))] ii_wy_runPairs_58 rfl rfl rfl rfl ?_
    refine sm_goto 20 ii_wy_runPairs_61 (by decide) ?_
    exact hself20 (a1) ((a2 + (1 : Int32))) w10
set_option maxHeartbeats 4000000 in
set_option maxRecDepth 100000 in
theorem ss_wy_runPairs_20_f {E : Nat × (Nat → Int32)}  : ∀ (n : Nat) (a1 : Nat) (a2 : Int32) (w : sm_Mem), sm_Sim E (mi_wy_runPairs) 20 [some (.ref 49), some (.ref a1), some (.int a2)] [] w (ff_wy_runPairs_20_f  n a1 a2 w)
  | 0, _, _, _ => fun _ _ h => by cases h
  | n + 1, a1, a2, w => ss_wy_runPairs_20_b  _ (ss_wy_runPairs_20_f  n) a1 a2 w
set_option maxHeartbeats 4000000 in
set_option maxRecDepth 100000 in
theorem ss_wy_runPairs_20 {E : Nat × (Nat → Int32)}  (a1 : Nat) (a2 : Int32) (w : sm_Mem) : sm_Sim E (mi_wy_runPairs) 20 [some (.ref 49), some (.ref a1), some (.int a2)] [] w (ff_wy_runPairs_20  a1 a2 w) := ss_wy_runPairs_20_f  sm_N a1 a2 w
noncomputable def ff_wy_runPairs  (a1 : Nat) (w : sm_Mem) : sm_R := (Option.bind (sm_gI w a1 2 1) fun x11 => (if (2 : Int32) = (0 : Int32) then none else (sm_let (sm_wI w 49 3 (if (0 : Int32) < (if (5 : Int32) < (x11 / (2 : Int32)) then (5 : Int32) else (x11 / (2 : Int32))) then (if (5 : Int32) < (x11 / (2 : Int32)) then (5 : Int32) else (x11 / (2 : Int32))) else (0 : Int32))) fun w13 => ff_wy_runPairs_20 (a1) ((0 : Int32)) w13)))
set_option maxHeartbeats 4000000 in
set_option maxRecDepth 100000 in
theorem ss_wy_runPairs_0 {E : Nat × (Nat → Int32)}  (a1 : Nat) (w : sm_Mem) : sm_Sim E (mi_wy_runPairs) 0 [some (.ref 49), some (.ref a1), none] [] w (ff_wy_runPairs  a1 w) := by
  unfold ff_wy_runPairs
  refine sm_aload_n ii_wy_runPairs_0 rfl ?_
  refine sm_iconst (0 : Int32) ii_wy_runPairs_1 (by decide) ?_
  refine sm_aload_n ii_wy_runPairs_2 rfl ?_
  refine sm_getIs ii_wy_runPairs_3 fl_wy_34 (fun x11 => ?_)
  refine sm_iconst (2 : Int32) ii_wy_runPairs_6 (by decide) ?_
  refine sm_idiv ii_wy_runPairs_7 ?_
  refine sm_iconst (5 : Int32) ii_wy_runPairs_8 (by decide) ?_
  refine sm_mmin ii_wy_runPairs_9 mq_wy_40 mq_st_min mq_in mq_co_min (by decide) rfl ?_
  refine sm_mmax ii_wy_runPairs_12 mq_wy_46 mq_st_max mq_in mq_co_max (by decide) rfl ?_
  refine sm_putI ii_wy_runPairs_15 fp_wy_49 (k := 49) rfl (fun w13 => ?_)
  refine sm_iconst (0 : Int32) ii_wy_runPairs_18 (by decide) ?_
  refine sm_istore_n [some (.ref 49), some (.ref a1), some (.int (0 : Int32))] ii_wy_runPairs_19 rfl rfl ?_
  exact ss_wy_runPairs_20 (a1) ((0 : Int32)) w13
set_option maxHeartbeats 4000000 in
set_option maxRecDepth 100000 in
theorem mc_wy_runPairs {E : Nat × (Nat → Int32)} (a1 : Nat) (w : sm_Mem) : sm_MC E mi_wy_runPairs [.ref 49, .ref a1] w (ff_wy_runPairs a1 w) := sm_MC_of E (by decide +kernel) rfl (Nat.le_of_ble_eq_true rfl) (ss_wy_runPairs_0 a1 w)
abbrev mi_ho_heard : sm_MI := (⟨"HerOrders", "heard", "(I)I"⟩, prog_1_method_29_code, 3, (some .int), 15)
set_option maxRecDepth 100000 in
theorem mf_ho_heard : sm_MF mi_ho_heard 1 := ⟨List.mem_of_getElem? (i := 611) (by decide +kernel), List.mem_of_getElem? (i := 69) (by decide +kernel), ⟨by decide, by decide⟩, by decide +kernel⟩
set_option maxRecDepth 100000 in
theorem mv_ho_heard : sm_MFV mi_ho_heard := ⟨List.mem_of_getElem? (i := 609) (by decide +kernel), List.mem_of_getElem? (i := 610) (by decide +kernel)⟩
set_option maxRecDepth 100000 in
theorem ii_ho_heard_0 : sm_D prog_1_method_29_code 0 1 1 (.aload_n 0) := ⟨by decide +kernel, rfl⟩
set_option maxRecDepth 100000 in
theorem ii_ho_heard_1 : sm_D prog_1_method_29_code 1 1 2 (.iload_n 1) := ⟨by decide +kernel, rfl⟩
set_option maxRecDepth 100000 in
theorem ii_ho_heard_2 : sm_D prog_1_method_29_code 2 3 5 (.invokevirtual 240) := ⟨by decide +kernel, rfl⟩
set_option maxRecDepth 100000 in
theorem ii_ho_heard_5 : sm_D prog_1_method_29_code 5 1 6 (.istore_n 2) := ⟨by decide +kernel, rfl⟩
set_option maxRecDepth 100000 in
theorem ii_ho_heard_6 : sm_D prog_1_method_29_code 6 1 7 (.iload_n 2) := ⟨by decide +kernel, rfl⟩
set_option maxRecDepth 100000 in
theorem ii_ho_heard_7 : sm_D prog_1_method_29_code 7 3 10 (.ifCond .eq 5) := ⟨by decide +kernel, rfl⟩
set_option maxRecDepth 100000 in
theorem ii_ho_heard_10 : sm_D prog_1_method_29_code 10 1 11 (.iload_n 2) := ⟨by decide +kernel, rfl⟩
set_option maxRecDepth 100000 in
theorem ii_ho_heard_11 : sm_D prog_1_method_29_code 11 1 12 (.ireturn) := ⟨by decide +kernel, rfl⟩
set_option maxRecDepth 100000 in
theorem ii_ho_heard_12 : sm_D prog_1_method_29_code 12 1 13 (.aload_n 0) := ⟨by decide +kernel, rfl⟩
set_option maxRecDepth 100000 in
theorem ii_ho_heard_13 : sm_D prog_1_method_29_code 13 3 16 (.getfield 40) := ⟨by decide +kernel, rfl⟩
set_option maxRecDepth 100000 in
theorem ii_ho_heard_16 : sm_D prog_1_method_29_code 16 1 17 (.aload_n 0) := ⟨by decide +kernel, rfl⟩
set_option maxRecDepth 100000 in
theorem ii_ho_heard_17 : sm_D prog_1_method_29_code 17 3 20 (.getfield 11) := ⟨by decide +kernel, rfl⟩
set_option maxRecDepth 100000 in
theorem ii_ho_heard_20 : sm_D prog_1_method_29_code 20 1 21 (.iload_n 1) := ⟨by decide +kernel, rfl⟩
set_option maxRecDepth 100000 in
theorem ii_ho_heard_21 : sm_D prog_1_method_29_code 21 1 22 (.aaload) := ⟨by decide +kernel, rfl⟩
set_option maxRecDepth 100000 in
theorem ii_ho_heard_22 : sm_D prog_1_method_29_code 22 3 25 (.invokevirtual 243) := ⟨by decide +kernel, rfl⟩
set_option maxRecDepth 100000 in
theorem ii_ho_heard_25 : sm_D prog_1_method_29_code 25 1 26 (.aload_n 0) := ⟨by decide +kernel, rfl⟩
set_option maxRecDepth 100000 in
theorem ii_ho_heard_26 : sm_D prog_1_method_29_code 26 3 29 (.getfield 54) := ⟨by decide +kernel, rfl⟩
set_option maxRecDepth 100000 in
theorem ii_ho_heard_29 : sm_D prog_1_method_29_code 29 1 30 (.aload_n 0) := ⟨by decide +kernel, rfl⟩
set_option maxRecDepth 100000 in
theorem ii_ho_heard_30 : sm_D prog_1_method_29_code 30 3 33 (.getfield 40) := ⟨by decide +kernel, rfl⟩
set_option maxRecDepth 100000 in
theorem ii_ho_heard_33 : sm_D prog_1_method_29_code 33 3 36 (.invokevirtual 199) := ⟨by decide +kernel, rfl⟩
set_option maxRecDepth 100000 in
theorem ii_ho_heard_36 : sm_D prog_1_method_29_code 36 1 37 (.i2l) := ⟨by decide +kernel, rfl⟩
set_option maxRecDepth 100000 in
theorem ii_ho_heard_37 : sm_D prog_1_method_29_code 37 1 38 (.lconst 1) := ⟨by decide +kernel, rfl⟩
set_option maxRecDepth 100000 in
theorem ii_ho_heard_38 : sm_D prog_1_method_29_code 38 3 41 (.invokevirtual 203) := ⟨by decide +kernel, rfl⟩
set_option maxRecDepth 100000 in
theorem ii_ho_heard_41 : sm_D prog_1_method_29_code 41 1 42 (.aload_n 0) := ⟨by decide +kernel, rfl⟩
set_option maxRecDepth 100000 in
theorem ii_ho_heard_42 : sm_D prog_1_method_29_code 42 3 45 (.getfield 54) := ⟨by decide +kernel, rfl⟩
set_option maxRecDepth 100000 in
theorem ii_ho_heard_45 : sm_D prog_1_method_29_code 45 1 46 (.aload_n 0) := ⟨by decide +kernel, rfl⟩
set_option maxRecDepth 100000 in
theorem ii_ho_heard_46 : sm_D prog_1_method_29_code 46 3 49 (.getfield 40) := ⟨by decide +kernel, rfl⟩
set_option maxRecDepth 100000 in
theorem ii_ho_heard_49 : sm_D prog_1_method_29_code 49 3 52 (.getfield 246) := ⟨by decide +kernel, rfl⟩
set_option maxRecDepth 100000 in
theorem ii_ho_heard_52 : sm_D prog_1_method_29_code 52 3 55 (.putfield 70) := ⟨by decide +kernel, rfl⟩
set_option maxRecDepth 100000 in
theorem ii_ho_heard_55 : sm_D prog_1_method_29_code 55 1 56 (.iconst 1) := ⟨by decide +kernel, rfl⟩
set_option maxRecDepth 100000 in
theorem ii_ho_heard_56 : sm_D prog_1_method_29_code 56 1 57 (.ireturn) := ⟨by decide +kernel, rfl⟩
noncomputable def ff_ho_heard  (a1 : Int32) (w : sm_Mem) : sm_R := (sm_cI (ff_ho_refusalOfPairs (a1) w) fun x1 w2 => (if x1 = (0 : Int32) then (Option.bind (sm_rr 1 a1) fun r3 => (sm_cV (ff_wy_runPairs (r3) w2) fun w5 => (sm_cI (ff_wy_fullWays  w5) fun x6 w7 => (sm_cV (ff_td_share ((Int32.toInt64 x6)) ((1 : Int64)) w7) fun w9 => (sm_let (sm_wI w9 60 0 (w9.1 49 9)) fun w10 => (some (.int (1 : Int32), w10))))))) else (some (.int x1, w2))))
set_option maxHeartbeats 4000000 in
set_option maxRecDepth 100000 in
theorem ss_ho_heard_0 {E : Nat × (Nat → Int32)}  (a1 : Int32) (w : sm_Mem) : sm_Sim E (mi_ho_heard) 0 [some (.ref 0), some (.int a1), none] [] w (ff_ho_heard  a1 w) := by
  unfold ff_ho_heard
  refine sm_aload_n ii_ho_heard_0 rfl ?_
  refine sm_iload_n ii_ho_heard_1 rfl ?_
  refine sm_cvI [.int a1] [] rfl ii_ho_heard_2 ml_ho_240 (mf_ho_refusalOfPairs) (mv_ho_refusalOfPairs) (Nat.le_of_ble_eq_true rfl) rfl 6 rfl rfl rfl rfl (mc_ho_refusalOfPairs (a1) w) (fun x1 w2 => ?_)
  refine sm_istore_n [some (.ref 0), some (.int a1), some (.int x1)] ii_ho_heard_5 rfl rfl ?_
  refine sm_iload_n ii_ho_heard_6 rfl ?_
  refine sm_if_eq 12 ii_ho_heard_7 (by decide) ?_ ?_
  · refine sm_aload_n ii_ho_heard_12 rfl ?_
    refine sm_getR 49 ii_ho_heard_13 fl_ho_40 (k := 0) rfl ?_
    refine sm_aload_n ii_ho_heard_16 rfl ?_
    refine sm_getR 1 ii_ho_heard_17 fl_ho_11 (k := 0) rfl ?_
    refine sm_iload_n ii_ho_heard_20 rfl ?_
    refine sm_aald ii_ho_heard_21 (fun r3 => ?_)
    refine sm_cvV [.ref r3] [] rfl ii_ho_heard_22 ml_ho_243 (mf_wy_runPairs) (mv_wy_runPairs) (Nat.le_of_ble_eq_true rfl) rfl 5 rfl rfl rfl rfl (mc_wy_runPairs (r3) w2) (fun w5 => ?_)
    refine sm_aload_n ii_ho_heard_25 rfl ?_
    refine sm_getR 60 ii_ho_heard_26 fl_ho_54 (k := 0) rfl ?_
    refine sm_aload_n ii_ho_heard_29 rfl ?_
    refine sm_getR 49 ii_ho_heard_30 fl_ho_40 (k := 0) rfl ?_
    refine sm_cvI [] [.ref 60] rfl ii_ho_heard_33 ml_ho_199 (mf_wy_fullWays) (mv_wy_fullWays) (Nat.le_of_ble_eq_true rfl) rfl 5 rfl rfl rfl rfl (mc_wy_fullWays  w5) (fun x6 w7 => ?_)
    refine sm_i2l ii_ho_heard_36 ?_
    refine sm_lconst (1 : Int64) ii_ho_heard_37 (by decide) ?_
    refine sm_cvV [.long (Int32.toInt64 x6), .long (1 : Int64)] [] rfl ii_ho_heard_38 ml_ho_203 (mf_td_share) (mv_td_share) (Nat.le_of_ble_eq_true rfl) rfl 3 rfl rfl rfl rfl (mc_td_share ((Int32.toInt64 x6)) ((1 : Int64)) w7) (fun w9 => ?_)
    refine sm_aload_n ii_ho_heard_41 rfl ?_
    refine sm_getR 60 ii_ho_heard_42 fl_ho_54 (k := 0) rfl ?_
    refine sm_aload_n ii_ho_heard_45 rfl ?_
    refine sm_getR 49 ii_ho_heard_46 fl_ho_40 (k := 0) rfl ?_
    refine sm_getI ii_ho_heard_49 fl_ho_246 (k := 49) rfl ?_
    refine sm_putI ii_ho_heard_52 fp_ho_70 (k := 60) rfl (fun w10 => ?_)
    refine sm_iconst (1 : Int32) ii_ho_heard_55 (by decide) ?_
    exact sm_iret ii_ho_heard_56 rfl
  · refine sm_iload_n ii_ho_heard_10 rfl ?_
    exact sm_iret ii_ho_heard_11 rfl
set_option maxHeartbeats 4000000 in
set_option maxRecDepth 100000 in
theorem mc_ho_heard {E : Nat × (Nat → Int32)} (a1 : Int32) (w : sm_Mem) : sm_MC E mi_ho_heard [.ref 0, .int a1] w (ff_ho_heard a1 w) := sm_MC_of E (by decide +kernel) rfl (Nat.le_of_ble_eq_true rfl) (ss_ho_heard_0 a1 w)
abbrev mi_hs_allSpeakers : sm_MI := (⟨"HerOrders$House", "allSpeakers", "()I"⟩, prog_3_method_25_code, 1, (some .int), 1)
set_option maxRecDepth 100000 in
theorem mf_hs_allSpeakers : sm_MF mi_hs_allSpeakers 0 := ⟨List.mem_of_getElem? (i := 631) (by decide +kernel), List.mem_of_getElem? (i := 73) (by decide +kernel), ⟨by decide, by decide⟩, by decide +kernel⟩
set_option maxRecDepth 100000 in
theorem mv_hs_allSpeakers : sm_MFV mi_hs_allSpeakers := ⟨List.mem_of_getElem? (i := 630) (by decide +kernel), List.mem_of_getElem? (i := 43) (by decide +kernel)⟩
set_option maxRecDepth 100000 in
theorem ii_hs_allSpeakers_0 : sm_D prog_3_method_25_code 0 1 1 (.iconst 1) := ⟨by decide +kernel, rfl⟩
set_option maxRecDepth 100000 in
theorem ii_hs_allSpeakers_1 : sm_D prog_3_method_25_code 1 1 2 (.aload_n 0) := ⟨by decide +kernel, rfl⟩
set_option maxRecDepth 100000 in
theorem ii_hs_allSpeakers_2 : sm_D prog_3_method_25_code 2 3 5 (.getfield 45) := ⟨by decide +kernel, rfl⟩
set_option maxRecDepth 100000 in
theorem ii_hs_allSpeakers_5 : sm_D prog_3_method_25_code 5 1 6 (.ishl) := ⟨by decide +kernel, rfl⟩
set_option maxRecDepth 100000 in
theorem ii_hs_allSpeakers_6 : sm_D prog_3_method_25_code 6 1 7 (.iconst 1) := ⟨by decide +kernel, rfl⟩
set_option maxRecDepth 100000 in
theorem ii_hs_allSpeakers_7 : sm_D prog_3_method_25_code 7 1 8 (.isub) := ⟨by decide +kernel, rfl⟩
set_option maxRecDepth 100000 in
theorem ii_hs_allSpeakers_8 : sm_D prog_3_method_25_code 8 1 9 (.ireturn) := ⟨by decide +kernel, rfl⟩
noncomputable def ff_hs_allSpeakers   (w : sm_Mem) : sm_R := (some (.int (((1 : Int32) <<< ((w.1 36 0) &&& (31 : Int32))) - (1 : Int32)), w))
set_option maxHeartbeats 4000000 in
set_option maxRecDepth 100000 in
theorem ss_hs_allSpeakers_0 {E : Nat × (Nat → Int32)}   (w : sm_Mem) : sm_Sim E (mi_hs_allSpeakers) 0 [some (.ref 36)] [] w (ff_hs_allSpeakers   w) := by
  unfold ff_hs_allSpeakers
  refine sm_iconst (1 : Int32) ii_hs_allSpeakers_0 (by decide) ?_
  refine sm_aload_n ii_hs_allSpeakers_1 rfl ?_
  refine sm_getI ii_hs_allSpeakers_2 fl_hs_45 (k := 36) rfl ?_
  refine sm_ishl ii_hs_allSpeakers_5 ?_
  refine sm_iconst (1 : Int32) ii_hs_allSpeakers_6 (by decide) ?_
  refine sm_isub ii_hs_allSpeakers_7 ?_
  exact sm_iret ii_hs_allSpeakers_8 rfl
set_option maxHeartbeats 4000000 in
set_option maxRecDepth 100000 in
theorem mc_hs_allSpeakers {E : Nat × (Nat → Int32)}  (w : sm_Mem) : sm_MC E mi_hs_allSpeakers [.ref 36] w (ff_hs_allSpeakers  w) := sm_MC_of E (by decide +kernel) rfl (Nat.le_of_ble_eq_true rfl) (ss_hs_allSpeakers_0  w)
abbrev mi_ho_sure : sm_MI := (⟨"HerOrders", "sure", "(I)I"⟩, prog_1_method_30_code, 3, (some .int), 15)
set_option maxRecDepth 100000 in
theorem mf_ho_sure : sm_MF mi_ho_sure 1 := ⟨List.mem_of_getElem? (i := 627) (by decide +kernel), List.mem_of_getElem? (i := 69) (by decide +kernel), ⟨by decide, by decide⟩, by decide +kernel⟩
set_option maxRecDepth 100000 in
theorem mv_ho_sure : sm_MFV mi_ho_sure := ⟨List.mem_of_getElem? (i := 625) (by decide +kernel), List.mem_of_getElem? (i := 626) (by decide +kernel)⟩
set_option maxRecDepth 100000 in
theorem ii_ho_sure_0 : sm_D prog_1_method_30_code 0 1 1 (.aload_n 0) := ⟨by decide +kernel, rfl⟩
set_option maxRecDepth 100000 in
theorem ii_ho_sure_1 : sm_D prog_1_method_30_code 1 1 2 (.iload_n 1) := ⟨by decide +kernel, rfl⟩
set_option maxRecDepth 100000 in
theorem ii_ho_sure_2 : sm_D prog_1_method_30_code 2 3 5 (.invokevirtual 240) := ⟨by decide +kernel, rfl⟩
set_option maxRecDepth 100000 in
theorem ii_ho_sure_5 : sm_D prog_1_method_30_code 5 1 6 (.istore_n 2) := ⟨by decide +kernel, rfl⟩
set_option maxRecDepth 100000 in
theorem ii_ho_sure_6 : sm_D prog_1_method_30_code 6 1 7 (.iload_n 2) := ⟨by decide +kernel, rfl⟩
set_option maxRecDepth 100000 in
theorem ii_ho_sure_7 : sm_D prog_1_method_30_code 7 3 10 (.ifCond .eq 5) := ⟨by decide +kernel, rfl⟩
set_option maxRecDepth 100000 in
theorem ii_ho_sure_10 : sm_D prog_1_method_30_code 10 1 11 (.iload_n 2) := ⟨by decide +kernel, rfl⟩
set_option maxRecDepth 100000 in
theorem ii_ho_sure_11 : sm_D prog_1_method_30_code 11 1 12 (.ireturn) := ⟨by decide +kernel, rfl⟩
set_option maxRecDepth 100000 in
theorem ii_ho_sure_12 : sm_D prog_1_method_30_code 12 1 13 (.aload_n 0) := ⟨by decide +kernel, rfl⟩
set_option maxRecDepth 100000 in
theorem ii_ho_sure_13 : sm_D prog_1_method_30_code 13 3 16 (.getfield 40) := ⟨by decide +kernel, rfl⟩
set_option maxRecDepth 100000 in
theorem ii_ho_sure_16 : sm_D prog_1_method_30_code 16 1 17 (.aload_n 0) := ⟨by decide +kernel, rfl⟩
set_option maxRecDepth 100000 in
theorem ii_ho_sure_17 : sm_D prog_1_method_30_code 17 3 20 (.getfield 11) := ⟨by decide +kernel, rfl⟩
set_option maxRecDepth 100000 in
theorem ii_ho_sure_20 : sm_D prog_1_method_30_code 20 1 21 (.iload_n 1) := ⟨by decide +kernel, rfl⟩
set_option maxRecDepth 100000 in
theorem ii_ho_sure_21 : sm_D prog_1_method_30_code 21 1 22 (.aaload) := ⟨by decide +kernel, rfl⟩
set_option maxRecDepth 100000 in
theorem ii_ho_sure_22 : sm_D prog_1_method_30_code 22 3 25 (.invokevirtual 243) := ⟨by decide +kernel, rfl⟩
set_option maxRecDepth 100000 in
theorem ii_ho_sure_25 : sm_D prog_1_method_30_code 25 1 26 (.aload_n 0) := ⟨by decide +kernel, rfl⟩
set_option maxRecDepth 100000 in
theorem ii_ho_sure_26 : sm_D prog_1_method_30_code 26 3 29 (.getfield 40) := ⟨by decide +kernel, rfl⟩
set_option maxRecDepth 100000 in
theorem ii_ho_sure_29 : sm_D prog_1_method_30_code 29 3 32 (.invokevirtual 199) := ⟨by decide +kernel, rfl⟩
set_option maxRecDepth 100000 in
theorem ii_ho_sure_32 : sm_D prog_1_method_30_code 32 3 35 (.ifCond .ne 12) := ⟨by decide +kernel, rfl⟩
set_option maxRecDepth 100000 in
theorem ii_ho_sure_35 : sm_D prog_1_method_30_code 35 1 36 (.aload_n 0) := ⟨by decide +kernel, rfl⟩
set_option maxRecDepth 100000 in
theorem ii_ho_sure_36 : sm_D prog_1_method_30_code 36 3 39 (.getfield 54) := ⟨by decide +kernel, rfl⟩
set_option maxRecDepth 100000 in
theorem ii_ho_sure_39 : sm_D prog_1_method_30_code 39 1 40 (.iconst 4) := ⟨by decide +kernel, rfl⟩
set_option maxRecDepth 100000 in
theorem ii_ho_sure_40 : sm_D prog_1_method_30_code 40 3 43 (.invokevirtual 85) := ⟨by decide +kernel, rfl⟩
set_option maxRecDepth 100000 in
theorem ii_ho_sure_43 : sm_D prog_1_method_30_code 43 1 44 (.ireturn) := ⟨by decide +kernel, rfl⟩
set_option maxRecDepth 100000 in
theorem ii_ho_sure_44 : sm_D prog_1_method_30_code 44 1 45 (.aload_n 0) := ⟨by decide +kernel, rfl⟩
set_option maxRecDepth 100000 in
theorem ii_ho_sure_45 : sm_D prog_1_method_30_code 45 3 48 (.getfield 54) := ⟨by decide +kernel, rfl⟩
set_option maxRecDepth 100000 in
theorem ii_ho_sure_48 : sm_D prog_1_method_30_code 48 1 49 (.aload_n 0) := ⟨by decide +kernel, rfl⟩
set_option maxRecDepth 100000 in
theorem ii_ho_sure_49 : sm_D prog_1_method_30_code 49 3 52 (.getfield 31) := ⟨by decide +kernel, rfl⟩
set_option maxRecDepth 100000 in
theorem ii_ho_sure_52 : sm_D prog_1_method_30_code 52 3 55 (.invokevirtual 249) := ⟨by decide +kernel, rfl⟩
set_option maxRecDepth 100000 in
theorem ii_ho_sure_55 : sm_D prog_1_method_30_code 55 1 56 (.aload_n 0) := ⟨by decide +kernel, rfl⟩
set_option maxRecDepth 100000 in
theorem ii_ho_sure_56 : sm_D prog_1_method_30_code 56 3 59 (.getfield 40) := ⟨by decide +kernel, rfl⟩
set_option maxRecDepth 100000 in
theorem ii_ho_sure_59 : sm_D prog_1_method_30_code 59 3 62 (.getfield 252) := ⟨by decide +kernel, rfl⟩
set_option maxRecDepth 100000 in
theorem ii_ho_sure_62 : sm_D prog_1_method_30_code 62 1 63 (.iconst (-1)) := ⟨by decide +kernel, rfl⟩
set_option maxRecDepth 100000 in
theorem ii_ho_sure_63 : sm_D prog_1_method_30_code 63 1 64 (.ixor) := ⟨by decide +kernel, rfl⟩
set_option maxRecDepth 100000 in
theorem ii_ho_sure_64 : sm_D prog_1_method_30_code 64 1 65 (.iand) := ⟨by decide +kernel, rfl⟩
set_option maxRecDepth 100000 in
theorem ii_ho_sure_65 : sm_D prog_1_method_30_code 65 3 68 (.putfield 70) := ⟨by decide +kernel, rfl⟩
set_option maxRecDepth 100000 in
theorem ii_ho_sure_68 : sm_D prog_1_method_30_code 68 1 69 (.aload_n 0) := ⟨by decide +kernel, rfl⟩
set_option maxRecDepth 100000 in
theorem ii_ho_sure_69 : sm_D prog_1_method_30_code 69 3 72 (.getfield 40) := ⟨by decide +kernel, rfl⟩
set_option maxRecDepth 100000 in
theorem ii_ho_sure_72 : sm_D prog_1_method_30_code 72 3 75 (.invokevirtual 207) := ⟨by decide +kernel, rfl⟩
set_option maxRecDepth 100000 in
theorem ii_ho_sure_75 : sm_D prog_1_method_30_code 75 1 76 (.ireturn) := ⟨by decide +kernel, rfl⟩
noncomputable def ff_ho_sure  (a1 : Int32) (w : sm_Mem) : sm_R := (sm_cI (ff_ho_refusalOfPairs (a1) w) fun x1 w2 => (if x1 = (0 : Int32) then (Option.bind (sm_rr 1 a1) fun r3 => (sm_cV (ff_wy_runPairs (r3) w2) fun w5 => (sm_cI (ff_wy_fullWays  w5) fun x6 w7 => (if x6 = (0 : Int32) then (sm_cI (ff_td_refuse ((4 : Int32)) w7) fun x13 w14 => (some (.int x13, w14))) else (sm_cI (ff_hs_allSpeakers  w7) fun x8 w9 => (sm_let (sm_wI w9 60 0 (x8 &&& ((w9.1 49 11) ^^^ (-1 : Int32)))) fun w10 => (sm_cI (ff_wy_inAll  w10) fun x11 w12 => (some (.int x11, w12))))))))) else (some (.int x1, w2))))
set_option maxHeartbeats 4000000 in
set_option maxRecDepth 100000 in
theorem ss_ho_sure_0 {E : Nat × (Nat → Int32)}  (a1 : Int32) (w : sm_Mem) : sm_Sim E (mi_ho_sure) 0 [some (.ref 0), some (.int a1), none] [] w (ff_ho_sure  a1 w) := by
  unfold ff_ho_sure
  refine sm_aload_n ii_ho_sure_0 rfl ?_
  refine sm_iload_n ii_ho_sure_1 rfl ?_
  refine sm_cvI [.int a1] [] rfl ii_ho_sure_2 ml_ho_240 (mf_ho_refusalOfPairs) (mv_ho_refusalOfPairs) (Nat.le_of_ble_eq_true rfl) rfl 6 rfl rfl rfl rfl (mc_ho_refusalOfPairs (a1) w) (fun x1 w2 => ?_)
  refine sm_istore_n [some (.ref 0), some (.int a1), some (.int x1)] ii_ho_sure_5 rfl rfl ?_
  refine sm_iload_n ii_ho_sure_6 rfl ?_
  refine sm_if_eq 12 ii_ho_sure_7 (by decide) ?_ ?_
  · refine sm_aload_n ii_ho_sure_12 rfl ?_
    refine sm_getR 49 ii_ho_sure_13 fl_ho_40 (k := 0) rfl ?_
    refine sm_aload_n ii_ho_sure_16 rfl ?_
    refine sm_getR 1 ii_ho_sure_17 fl_ho_11 (k := 0) rfl ?_
    refine sm_iload_n ii_ho_sure_20 rfl ?_
    refine sm_aald ii_ho_sure_21 (fun r3 => ?_)
    refine sm_cvV [.ref r3] [] rfl ii_ho_sure_22 ml_ho_243 (mf_wy_runPairs) (mv_wy_runPairs) (Nat.le_of_ble_eq_true rfl) rfl 5 rfl rfl rfl rfl (mc_wy_runPairs (r3) w2) (fun w5 => ?_)
    refine sm_aload_n ii_ho_sure_25 rfl ?_
    refine sm_getR 49 ii_ho_sure_26 fl_ho_40 (k := 0) rfl ?_
    refine sm_cvI [] [] rfl ii_ho_sure_29 ml_ho_199 (mf_wy_fullWays) (mv_wy_fullWays) (Nat.le_of_ble_eq_true rfl) rfl 5 rfl rfl rfl rfl (mc_wy_fullWays  w5) (fun x6 w7 => ?_)
    refine sm_if_ne 44 ii_ho_sure_32 (by decide) ?_ ?_
    · refine sm_aload_n ii_ho_sure_35 rfl ?_
      refine sm_getR 60 ii_ho_sure_36 fl_ho_54 (k := 0) rfl ?_
      refine sm_iconst (4 : Int32) ii_ho_sure_39 (by decide) ?_
      refine sm_cvI [.int (4 : Int32)] [] rfl ii_ho_sure_40 ml_ho_85 (mf_td_refuse) (mv_td_refuse) (Nat.le_of_ble_eq_true rfl) rfl 3 rfl rfl rfl rfl (mc_td_refuse ((4 : Int32)) w7) (fun x13 w14 => ?_)
      exact sm_iret ii_ho_sure_43 rfl
    · refine sm_aload_n ii_ho_sure_44 rfl ?_
      refine sm_getR 60 ii_ho_sure_45 fl_ho_54 (k := 0) rfl ?_
      refine sm_aload_n ii_ho_sure_48 rfl ?_
      refine sm_getR 36 ii_ho_sure_49 fl_ho_31 (k := 0) rfl ?_
      refine sm_cvI [] [.ref 60] rfl ii_ho_sure_52 ml_ho_249 (mf_hs_allSpeakers) (mv_hs_allSpeakers) (Nat.le_of_ble_eq_true rfl) rfl 1 rfl rfl rfl rfl (mc_hs_allSpeakers  w7) (fun x8 w9 => ?_)
      refine sm_aload_n ii_ho_sure_55 rfl ?_
      refine sm_getR 49 ii_ho_sure_56 fl_ho_40 (k := 0) rfl ?_
      refine sm_getI ii_ho_sure_59 fl_ho_252 (k := 49) rfl ?_
      refine sm_iconst (-1 : Int32) ii_ho_sure_62 (by decide) ?_
      refine sm_ixor ii_ho_sure_63 ?_
      refine sm_iand ii_ho_sure_64 ?_
      refine sm_putI ii_ho_sure_65 fp_ho_70 (k := 60) rfl (fun w10 => ?_)
      refine sm_aload_n ii_ho_sure_68 rfl ?_
      refine sm_getR 49 ii_ho_sure_69 fl_ho_40 (k := 0) rfl ?_
      refine sm_cvI [] [] rfl ii_ho_sure_72 ml_ho_207 (mf_wy_inAll) (mv_wy_inAll) (Nat.le_of_ble_eq_true rfl) rfl 5 rfl rfl rfl rfl (mc_wy_inAll  w10) (fun x11 w12 => ?_)
      exact sm_iret ii_ho_sure_75 rfl
  · refine sm_iload_n ii_ho_sure_10 rfl ?_
    exact sm_iret ii_ho_sure_11 rfl
set_option maxHeartbeats 4000000 in
set_option maxRecDepth 100000 in
theorem mc_ho_sure {E : Nat × (Nat → Int32)} (a1 : Int32) (w : sm_Mem) : sm_MC E mi_ho_sure [.ref 0, .int a1] w (ff_ho_sure a1 w) := sm_MC_of E (by decide +kernel) rfl (Nat.le_of_ble_eq_true rfl) (ss_ho_sure_0 a1 w)
abbrev mi_rw_isOfTriples : sm_MI := (⟨"HerOrders$Row", "isOfTriples", "()Z"⟩, prog_4_method_9_code, 2, (some .boolean), 2)
set_option maxRecDepth 100000 in
theorem mf_rw_isOfTriples : sm_MF mi_rw_isOfTriples 0 := ⟨List.mem_of_getElem? (i := 643) (by decide +kernel), List.mem_of_getElem? (i := 70) (by decide +kernel), ⟨by decide, by decide⟩, by decide +kernel⟩
set_option maxRecDepth 100000 in
theorem mv_rw_isOfTriples : sm_MFV mi_rw_isOfTriples := ⟨List.mem_of_getElem? (i := 642) (by decide +kernel), List.mem_of_getElem? (i := 45) (by decide +kernel)⟩
set_option maxRecDepth 100000 in
theorem ii_rw_isOfTriples_0 : sm_D prog_4_method_9_code 0 1 1 (.iconst 0) := ⟨by decide +kernel, rfl⟩
set_option maxRecDepth 100000 in
theorem ii_rw_isOfTriples_1 : sm_D prog_4_method_9_code 1 1 2 (.istore_n 1) := ⟨by decide +kernel, rfl⟩
set_option maxRecDepth 100000 in
theorem ii_rw_isOfTriples_2 : sm_D prog_4_method_9_code 2 1 3 (.iload_n 1) := ⟨by decide +kernel, rfl⟩
set_option maxRecDepth 100000 in
theorem ii_rw_isOfTriples_3 : sm_D prog_4_method_9_code 3 1 4 (.iconst 2) := ⟨by decide +kernel, rfl⟩
set_option maxRecDepth 100000 in
theorem ii_rw_isOfTriples_4 : sm_D prog_4_method_9_code 4 1 5 (.iadd) := ⟨by decide +kernel, rfl⟩
set_option maxRecDepth 100000 in
theorem ii_rw_isOfTriples_5 : sm_D prog_4_method_9_code 5 1 6 (.aload_n 0) := ⟨by decide +kernel, rfl⟩
set_option maxRecDepth 100000 in
theorem ii_rw_isOfTriples_6 : sm_D prog_4_method_9_code 6 3 9 (.getfield 21) := ⟨by decide +kernel, rfl⟩
set_option maxRecDepth 100000 in
theorem ii_rw_isOfTriples_9 : sm_D prog_4_method_9_code 9 3 12 (.if_icmp .ge 71) := ⟨by decide +kernel, rfl⟩
set_option maxRecDepth 100000 in
theorem ii_rw_isOfTriples_12 : sm_D prog_4_method_9_code 12 1 13 (.aload_n 0) := ⟨by decide +kernel, rfl⟩
set_option maxRecDepth 100000 in
theorem ii_rw_isOfTriples_13 : sm_D prog_4_method_9_code 13 3 16 (.getfield 15) := ⟨by decide +kernel, rfl⟩
set_option maxRecDepth 100000 in
theorem ii_rw_isOfTriples_16 : sm_D prog_4_method_9_code 16 1 17 (.iload_n 1) := ⟨by decide +kernel, rfl⟩
set_option maxRecDepth 100000 in
theorem ii_rw_isOfTriples_17 : sm_D prog_4_method_9_code 17 1 18 (.iaload) := ⟨by decide +kernel, rfl⟩
set_option maxRecDepth 100000 in
theorem ii_rw_isOfTriples_18 : sm_D prog_4_method_9_code 18 2 20 (.bipush (-9)) := ⟨by decide +kernel, rfl⟩
set_option maxRecDepth 100000 in
theorem ii_rw_isOfTriples_20 : sm_D prog_4_method_9_code 20 3 23 (.if_icmp .eq 19) := ⟨by decide +kernel, rfl⟩
set_option maxRecDepth 100000 in
theorem ii_rw_isOfTriples_23 : sm_D prog_4_method_9_code 23 1 24 (.aload_n 0) := ⟨by decide +kernel, rfl⟩
set_option maxRecDepth 100000 in
theorem ii_rw_isOfTriples_24 : sm_D prog_4_method_9_code 24 3 27 (.getfield 15) := ⟨by decide +kernel, rfl⟩
set_option maxRecDepth 100000 in
theorem ii_rw_isOfTriples_27 : sm_D prog_4_method_9_code 27 1 28 (.iload_n 1) := ⟨by decide +kernel, rfl⟩
set_option maxRecDepth 100000 in
theorem ii_rw_isOfTriples_28 : sm_D prog_4_method_9_code 28 1 29 (.iaload) := ⟨by decide +kernel, rfl⟩
set_option maxRecDepth 100000 in
theorem ii_rw_isOfTriples_29 : sm_D prog_4_method_9_code 29 2 31 (.bipush 6) := ⟨by decide +kernel, rfl⟩
set_option maxRecDepth 100000 in
theorem ii_rw_isOfTriples_31 : sm_D prog_4_method_9_code 31 3 34 (.invokestatic 32) := ⟨by decide +kernel, rfl⟩
set_option maxRecDepth 100000 in
theorem ii_rw_isOfTriples_34 : sm_D prog_4_method_9_code 34 3 37 (.ifCond .ne 5) := ⟨by decide +kernel, rfl⟩
set_option maxRecDepth 100000 in
theorem ii_rw_isOfTriples_37 : sm_D prog_4_method_9_code 37 1 38 (.iconst 0) := ⟨by decide +kernel, rfl⟩
set_option maxRecDepth 100000 in
theorem ii_rw_isOfTriples_38 : sm_D prog_4_method_9_code 38 1 39 (.ireturn) := ⟨by decide +kernel, rfl⟩
set_option maxRecDepth 100000 in
theorem ii_rw_isOfTriples_39 : sm_D prog_4_method_9_code 39 1 40 (.aload_n 0) := ⟨by decide +kernel, rfl⟩
set_option maxRecDepth 100000 in
theorem ii_rw_isOfTriples_40 : sm_D prog_4_method_9_code 40 3 43 (.getfield 15) := ⟨by decide +kernel, rfl⟩
set_option maxRecDepth 100000 in
theorem ii_rw_isOfTriples_43 : sm_D prog_4_method_9_code 43 1 44 (.iload_n 1) := ⟨by decide +kernel, rfl⟩
set_option maxRecDepth 100000 in
theorem ii_rw_isOfTriples_44 : sm_D prog_4_method_9_code 44 1 45 (.iconst 1) := ⟨by decide +kernel, rfl⟩
set_option maxRecDepth 100000 in
theorem ii_rw_isOfTriples_45 : sm_D prog_4_method_9_code 45 1 46 (.iadd) := ⟨by decide +kernel, rfl⟩
set_option maxRecDepth 100000 in
theorem ii_rw_isOfTriples_46 : sm_D prog_4_method_9_code 46 1 47 (.iaload) := ⟨by decide +kernel, rfl⟩
set_option maxRecDepth 100000 in
theorem ii_rw_isOfTriples_47 : sm_D prog_4_method_9_code 47 2 49 (.bipush 6) := ⟨by decide +kernel, rfl⟩
set_option maxRecDepth 100000 in
theorem ii_rw_isOfTriples_49 : sm_D prog_4_method_9_code 49 3 52 (.invokestatic 32) := ⟨by decide +kernel, rfl⟩
set_option maxRecDepth 100000 in
theorem ii_rw_isOfTriples_52 : sm_D prog_4_method_9_code 52 3 55 (.ifCond .ne 5) := ⟨by decide +kernel, rfl⟩
set_option maxRecDepth 100000 in
theorem ii_rw_isOfTriples_55 : sm_D prog_4_method_9_code 55 1 56 (.iconst 0) := ⟨by decide +kernel, rfl⟩
set_option maxRecDepth 100000 in
theorem ii_rw_isOfTriples_56 : sm_D prog_4_method_9_code 56 1 57 (.ireturn) := ⟨by decide +kernel, rfl⟩
set_option maxRecDepth 100000 in
theorem ii_rw_isOfTriples_57 : sm_D prog_4_method_9_code 57 1 58 (.aload_n 0) := ⟨by decide +kernel, rfl⟩
set_option maxRecDepth 100000 in
theorem ii_rw_isOfTriples_58 : sm_D prog_4_method_9_code 58 3 61 (.getfield 15) := ⟨by decide +kernel, rfl⟩
set_option maxRecDepth 100000 in
theorem ii_rw_isOfTriples_61 : sm_D prog_4_method_9_code 61 1 62 (.iload_n 1) := ⟨by decide +kernel, rfl⟩
set_option maxRecDepth 100000 in
theorem ii_rw_isOfTriples_62 : sm_D prog_4_method_9_code 62 1 63 (.iconst 2) := ⟨by decide +kernel, rfl⟩
set_option maxRecDepth 100000 in
theorem ii_rw_isOfTriples_63 : sm_D prog_4_method_9_code 63 1 64 (.iadd) := ⟨by decide +kernel, rfl⟩
set_option maxRecDepth 100000 in
theorem ii_rw_isOfTriples_64 : sm_D prog_4_method_9_code 64 1 65 (.iaload) := ⟨by decide +kernel, rfl⟩
set_option maxRecDepth 100000 in
theorem ii_rw_isOfTriples_65 : sm_D prog_4_method_9_code 65 1 66 (.iconst 2) := ⟨by decide +kernel, rfl⟩
set_option maxRecDepth 100000 in
theorem ii_rw_isOfTriples_66 : sm_D prog_4_method_9_code 66 3 69 (.invokestatic 32) := ⟨by decide +kernel, rfl⟩
set_option maxRecDepth 100000 in
theorem ii_rw_isOfTriples_69 : sm_D prog_4_method_9_code 69 3 72 (.ifCond .ne 5) := ⟨by decide +kernel, rfl⟩
set_option maxRecDepth 100000 in
theorem ii_rw_isOfTriples_72 : sm_D prog_4_method_9_code 72 1 73 (.iconst 0) := ⟨by decide +kernel, rfl⟩
set_option maxRecDepth 100000 in
theorem ii_rw_isOfTriples_73 : sm_D prog_4_method_9_code 73 1 74 (.ireturn) := ⟨by decide +kernel, rfl⟩
set_option maxRecDepth 100000 in
theorem ii_rw_isOfTriples_74 : sm_D prog_4_method_9_code 74 3 77 (.iinc 1 3) := ⟨by decide +kernel, rfl⟩
set_option maxRecDepth 100000 in
theorem ii_rw_isOfTriples_77 : sm_D prog_4_method_9_code 77 3 80 (.goto (-75)) := ⟨by decide +kernel, rfl⟩
set_option maxRecDepth 100000 in
theorem ii_rw_isOfTriples_80 : sm_D prog_4_method_9_code 80 1 81 (.iconst 1) := ⟨by decide +kernel, rfl⟩
set_option maxRecDepth 100000 in
theorem ii_rw_isOfTriples_81 : sm_D prog_4_method_9_code 81 1 82 (.ireturn) := ⟨by decide +kernel, rfl⟩
noncomputable def ff_rw_isOfTriples_39 (self2 : Nat → Int32 → sm_Mem → sm_R) (a0 : Nat) (a1 : Int32) (w : sm_Mem) : sm_R := (Option.bind (sm_fk a0 2 0 2) fun r1 => (Option.bind (sm_rds w r1 (a1 + (1 : Int32))) fun x2 => (sm_cI (ff_ho_isWithin (x2) ((6 : Int32)) w) fun x3 w4 => (if x3 = (0 : Int32) then (some (.int (0 : Int32), w4)) else (Option.bind (sm_fk a0 2 0 2) fun r5 => (Option.bind (sm_rds w4 r5 (a1 + (2 : Int32))) fun x6 => (sm_cI (ff_ho_isWithin (x6) ((2 : Int32)) w4) fun x7 w8 => (if x7 = (0 : Int32) then (some (.int (0 : Int32), w8)) else self2 (a0) ((a1 + (3 : Int32))) w8))))))))
set_option maxHeartbeats 4000000 in
set_option maxRecDepth 100000 in
theorem ss_rw_isOfTriples_39 {E : Nat × (Nat → Int32)} (self2 : Nat → Int32 → sm_Mem → sm_R) (hself2 : ∀ (a0 : Nat) (a1 : Int32) (w : sm_Mem), sm_Sim E (mi_rw_isOfTriples) 2 [some (.ref a0), some (.int a1)] [] w (self2 a0 a1 w)) (a0 : Nat) (a1 : Int32) (w : sm_Mem) : sm_Sim E (mi_rw_isOfTriples) 39 [some (.ref a0), some (.int a1)] [] w (ff_rw_isOfTriples_39 self2 a0 a1 w) := by
  unfold ff_rw_isOfTriples_39
  refine sm_aload_n ii_rw_isOfTriples_39 rfl ?_
  refine sm_getRs ii_rw_isOfTriples_40 fl_rw_15 (fun r1 => ?_)
  refine sm_iload_n ii_rw_isOfTriples_43 rfl ?_
  refine sm_iconst (1 : Int32) ii_rw_isOfTriples_44 (by decide) ?_
  refine sm_iadd ii_rw_isOfTriples_45 ?_
  refine sm_ialds ii_rw_isOfTriples_46 (fun x2 => ?_)
  refine sm_bipush (6 : Int32) ii_rw_isOfTriples_47 (by decide) ?_
  refine sm_csI [.int x2, .int (6 : Int32)] [] rfl ii_rw_isOfTriples_49 ml_rw_32 (mf_ho_isWithin) (mv_ho_isWithin) (Nat.le_of_ble_eq_true rfl) rfl rfl rfl (mc_ho_isWithin (x2) ((6 : Int32)) w) (fun x3 w4 => ?_)
  refine sm_if_ne 57 ii_rw_isOfTriples_52 (by decide) ?_ ?_
  · refine sm_iconst (0 : Int32) ii_rw_isOfTriples_55 (by decide) ?_
    exact sm_zret1 ii_rw_isOfTriples_56 rfl (by decide)
  · refine sm_aload_n ii_rw_isOfTriples_57 rfl ?_
    refine sm_getRs ii_rw_isOfTriples_58 fl_rw_15 (fun r5 => ?_)
    refine sm_iload_n ii_rw_isOfTriples_61 rfl ?_
    refine sm_iconst (2 : Int32) ii_rw_isOfTriples_62 (by decide) ?_
    refine sm_iadd ii_rw_isOfTriples_63 ?_
    refine sm_ialds ii_rw_isOfTriples_64 (fun x6 => ?_)
    refine sm_iconst (2 : Int32) ii_rw_isOfTriples_65 (by decide) ?_
    refine sm_csI [.int x6, .int (2 : Int32)] [] rfl ii_rw_isOfTriples_66 ml_rw_32 (mf_ho_isWithin) (mv_ho_isWithin) (Nat.le_of_ble_eq_true rfl) rfl rfl rfl (mc_ho_isWithin (x6) ((2 : Int32)) w4) (fun x7 w8 => ?_)
    refine sm_if_ne 74 ii_rw_isOfTriples_69 (by decide) ?_ ?_
    · refine sm_iconst (0 : Int32) ii_rw_isOfTriples_72 (by decide) ?_
      exact sm_zret1 ii_rw_isOfTriples_73 rfl (by decide)
    · refine sm_iinc (a1 + (3 : Int32)) [some (.ref a0), some (.int (a1 + (3 : Int32)))] ii_rw_isOfTriples_74 rfl rfl rfl rfl ?_
      refine sm_goto 2 ii_rw_isOfTriples_77 (by decide) ?_
      exact hself2 (a0) ((a1 + (3 : Int32))) w8
noncomputable def ff_rw_isOfTriples_2_b  (self2 : Nat → Int32 → sm_Mem → sm_R) (a0 : Nat) (a1 : Int32) (w : sm_Mem) : sm_R := (Option.bind (sm_gI w a0 2 1) fun x9 => (if x9 ≤ (a1 + (2 : Int32)) then (some (.int (1 : Int32), w)) else (Option.bind (sm_fk a0 2 0 2) fun r10 => (Option.bind (sm_rds w r10 a1) fun x11 => (if x11 = (-9 : Int32) then ff_rw_isOfTriples_39 self2 (a0) (a1) w else (Option.bind (sm_fk a0 2 0 2) fun r12 => (Option.bind (sm_rds w r12 a1) fun x13 => (sm_cI (ff_ho_isWithin (x13) ((6 : Int32)) w) fun x14 w15 => (if x14 = (0 : Int32) then (some (.int (0 : Int32), w15)) else ff_rw_isOfTriples_39 self2 (a0) (a1) w15)))))))))
noncomputable def ff_rw_isOfTriples_2_f  : Nat → Nat → Int32 → sm_Mem → sm_R
  | 0, _, _, _ => none
  | n + 1, a0, a1, w => ff_rw_isOfTriples_2_b  (ff_rw_isOfTriples_2_f  n) a0 a1 w
noncomputable def ff_rw_isOfTriples_2  (a0 : Nat) (a1 : Int32) (w : sm_Mem) : sm_R := ff_rw_isOfTriples_2_f  sm_N a0 a1 w
set_option maxHeartbeats 4000000 in
set_option maxRecDepth 100000 in
theorem ss_rw_isOfTriples_2_b {E : Nat × (Nat → Int32)}  (self2 : Nat → Int32 → sm_Mem → sm_R) (hself2 : ∀ (a0 : Nat) (a1 : Int32) (w : sm_Mem), sm_Sim E (mi_rw_isOfTriples) 2 [some (.ref a0), some (.int a1)] [] w (self2 a0 a1 w)) (a0 : Nat) (a1 : Int32) (w : sm_Mem) : sm_Sim E (mi_rw_isOfTriples) 2 [some (.ref a0), some (.int a1)] [] w (ff_rw_isOfTriples_2_b  self2 a0 a1 w) := by
  unfold ff_rw_isOfTriples_2_b
  refine sm_iload_n ii_rw_isOfTriples_2 rfl ?_
  refine sm_iconst (2 : Int32) ii_rw_isOfTriples_3 (by decide) ?_
  refine sm_iadd ii_rw_isOfTriples_4 ?_
  refine sm_aload_n ii_rw_isOfTriples_5 rfl ?_
  refine sm_getIs ii_rw_isOfTriples_6 fl_rw_21 (fun x9 => ?_)
  refine sm_icmp_ge 80 ii_rw_isOfTriples_9 (by decide) ?_ ?_
  · refine sm_iconst (1 : Int32) ii_rw_isOfTriples_80 (by decide) ?_
    exact sm_zret1 ii_rw_isOfTriples_81 rfl (by decide)
  · refine sm_aload_n ii_rw_isOfTriples_12 rfl ?_
    refine sm_getRs ii_rw_isOfTriples_13 fl_rw_15 (fun r10 => ?_)
    refine sm_iload_n ii_rw_isOfTriples_16 rfl ?_
    refine sm_ialds ii_rw_isOfTriples_17 (fun x11 => ?_)
    refine sm_bipush (-9 : Int32) ii_rw_isOfTriples_18 (by decide) ?_
    refine sm_icmp_eq 39 ii_rw_isOfTriples_20 (by decide) ?_ ?_
    · exact ss_rw_isOfTriples_39 self2 hself2 (a0) (a1) w
    · refine sm_aload_n ii_rw_isOfTriples_23 rfl ?_
      refine sm_getRs ii_rw_isOfTriples_24 fl_rw_15 (fun r12 => ?_)
      refine sm_iload_n ii_rw_isOfTriples_27 rfl ?_
      refine sm_ialds ii_rw_isOfTriples_28 (fun x13 => ?_)
      refine sm_bipush (6 : Int32) ii_rw_isOfTriples_29 (by decide) ?_
      refine sm_csI [.int x13, .int (6 : Int32)] [] rfl ii_rw_isOfTriples_31 ml_rw_32 (mf_ho_isWithin) (mv_ho_isWithin) (Nat.le_of_ble_eq_true rfl) rfl rfl rfl (mc_ho_isWithin (x13) ((6 : Int32)) w) (fun x14 w15 => ?_)
      refine sm_if_ne 39 ii_rw_isOfTriples_34 (by decide) ?_ ?_
      · refine sm_iconst (0 : Int32) ii_rw_isOfTriples_37 (by decide) ?_
        exact sm_zret1 ii_rw_isOfTriples_38 rfl (by decide)
      · exact ss_rw_isOfTriples_39 self2 hself2 (a0) (a1) w15
set_option maxHeartbeats 4000000 in
set_option maxRecDepth 100000 in
theorem ss_rw_isOfTriples_2_f {E : Nat × (Nat → Int32)}  : ∀ (n : Nat) (a0 : Nat) (a1 : Int32) (w : sm_Mem), sm_Sim E (mi_rw_isOfTriples) 2 [some (.ref a0), some (.int a1)] [] w (ff_rw_isOfTriples_2_f  n a0 a1 w)
  | 0, _, _, _ => fun _ _ h => by cases h
  | n + 1, a0, a1, w => ss_rw_isOfTriples_2_b  _ (ss_rw_isOfTriples_2_f  n) a0 a1 w
set_option maxHeartbeats 4000000 in
set_option maxRecDepth 100000 in
theorem ss_rw_isOfTriples_2 {E : Nat × (Nat → Int32)}  (a0 : Nat) (a1 : Int32) (w : sm_Mem) : sm_Sim E (mi_rw_isOfTriples) 2 [some (.ref a0), some (.int a1)] [] w (ff_rw_isOfTriples_2  a0 a1 w) := ss_rw_isOfTriples_2_f  sm_N a0 a1 w
noncomputable def ff_rw_isOfTriples  (a0 : Nat) (w : sm_Mem) : sm_R := ff_rw_isOfTriples_2 (a0) ((0 : Int32)) w
set_option maxHeartbeats 4000000 in
set_option maxRecDepth 100000 in
theorem ss_rw_isOfTriples_0 {E : Nat × (Nat → Int32)}  (a0 : Nat) (w : sm_Mem) : sm_Sim E (mi_rw_isOfTriples) 0 [some (.ref a0), none] [] w (ff_rw_isOfTriples  a0 w) := by
  unfold ff_rw_isOfTriples
  refine sm_iconst (0 : Int32) ii_rw_isOfTriples_0 (by decide) ?_
  refine sm_istore_n [some (.ref a0), some (.int (0 : Int32))] ii_rw_isOfTriples_1 rfl rfl ?_
  exact ss_rw_isOfTriples_2 (a0) ((0 : Int32)) w
set_option maxHeartbeats 4000000 in
set_option maxRecDepth 100000 in
theorem mc_rw_isOfTriples {E : Nat × (Nat → Int32)} (a0 : Nat) (w : sm_Mem) : sm_MC E mi_rw_isOfTriples [.ref a0] w (ff_rw_isOfTriples a0 w) := sm_MC_of E (by decide +kernel) rfl (Nat.le_of_ble_eq_true rfl) (ss_rw_isOfTriples_0 a0 w)
abbrev mi_ho_refusalOfTriples : sm_MI := (⟨"HerOrders", "refusalOfTriples", "(II)I"⟩, prog_1_method_52_code, 3, (some .int), 3)
set_option maxRecDepth 100000 in
theorem mf_ho_refusalOfTriples : sm_MF mi_ho_refusalOfTriples 2 := ⟨List.mem_of_getElem? (i := 639) (by decide +kernel), List.mem_of_getElem? (i := 69) (by decide +kernel), ⟨by decide, by decide⟩, by decide +kernel⟩
set_option maxRecDepth 100000 in
theorem mv_ho_refusalOfTriples : sm_MFV mi_ho_refusalOfTriples := ⟨List.mem_of_getElem? (i := 638) (by decide +kernel), List.mem_of_getElem? (i := 44) (by decide +kernel)⟩
set_option maxRecDepth 100000 in
theorem ii_ho_refusalOfTriples_0 : sm_D prog_1_method_52_code 0 1 1 (.aload_n 0) := ⟨by decide +kernel, rfl⟩
set_option maxRecDepth 100000 in
theorem ii_ho_refusalOfTriples_1 : sm_D prog_1_method_52_code 1 1 2 (.iload_n 1) := ⟨by decide +kernel, rfl⟩
set_option maxRecDepth 100000 in
theorem ii_ho_refusalOfTriples_2 : sm_D prog_1_method_52_code 2 3 5 (.invokevirtual 118) := ⟨by decide +kernel, rfl⟩
set_option maxRecDepth 100000 in
theorem ii_ho_refusalOfTriples_5 : sm_D prog_1_method_52_code 5 3 8 (.ifCond .eq 12) := ⟨by decide +kernel, rfl⟩
set_option maxRecDepth 100000 in
theorem ii_ho_refusalOfTriples_8 : sm_D prog_1_method_52_code 8 1 9 (.iload_n 2) := ⟨by decide +kernel, rfl⟩
set_option maxRecDepth 100000 in
theorem ii_ho_refusalOfTriples_9 : sm_D prog_1_method_52_code 9 2 11 (.bipush 6) := ⟨by decide +kernel, rfl⟩
set_option maxRecDepth 100000 in
theorem ii_ho_refusalOfTriples_11 : sm_D prog_1_method_52_code 11 3 14 (.invokestatic 81) := ⟨by decide +kernel, rfl⟩
set_option maxRecDepth 100000 in
theorem ii_ho_refusalOfTriples_14 : sm_D prog_1_method_52_code 14 3 17 (.ifCond .ne 5) := ⟨by decide +kernel, rfl⟩
set_option maxRecDepth 100000 in
theorem ii_ho_refusalOfTriples_17 : sm_D prog_1_method_52_code 17 1 18 (.iconst (-1)) := ⟨by decide +kernel, rfl⟩
set_option maxRecDepth 100000 in
theorem ii_ho_refusalOfTriples_18 : sm_D prog_1_method_52_code 18 1 19 (.ireturn) := ⟨by decide +kernel, rfl⟩
set_option maxRecDepth 100000 in
theorem ii_ho_refusalOfTriples_19 : sm_D prog_1_method_52_code 19 1 20 (.aload_n 0) := ⟨by decide +kernel, rfl⟩
set_option maxRecDepth 100000 in
theorem ii_ho_refusalOfTriples_20 : sm_D prog_1_method_52_code 20 3 23 (.getfield 11) := ⟨by decide +kernel, rfl⟩
set_option maxRecDepth 100000 in
theorem ii_ho_refusalOfTriples_23 : sm_D prog_1_method_52_code 23 1 24 (.iload_n 2) := ⟨by decide +kernel, rfl⟩
set_option maxRecDepth 100000 in
theorem ii_ho_refusalOfTriples_24 : sm_D prog_1_method_52_code 24 1 25 (.aaload) := ⟨by decide +kernel, rfl⟩
set_option maxRecDepth 100000 in
theorem ii_ho_refusalOfTriples_25 : sm_D prog_1_method_52_code 25 3 28 (.invokevirtual 89) := ⟨by decide +kernel, rfl⟩
set_option maxRecDepth 100000 in
theorem ii_ho_refusalOfTriples_28 : sm_D prog_1_method_52_code 28 3 31 (.ifCond .eq 12) := ⟨by decide +kernel, rfl⟩
set_option maxRecDepth 100000 in
theorem ii_ho_refusalOfTriples_31 : sm_D prog_1_method_52_code 31 1 32 (.aload_n 0) := ⟨by decide +kernel, rfl⟩
set_option maxRecDepth 100000 in
theorem ii_ho_refusalOfTriples_32 : sm_D prog_1_method_52_code 32 3 35 (.getfield 54) := ⟨by decide +kernel, rfl⟩
set_option maxRecDepth 100000 in
theorem ii_ho_refusalOfTriples_35 : sm_D prog_1_method_52_code 35 1 36 (.iconst 1) := ⟨by decide +kernel, rfl⟩
set_option maxRecDepth 100000 in
theorem ii_ho_refusalOfTriples_36 : sm_D prog_1_method_52_code 36 3 39 (.invokevirtual 85) := ⟨by decide +kernel, rfl⟩
set_option maxRecDepth 100000 in
theorem ii_ho_refusalOfTriples_39 : sm_D prog_1_method_52_code 39 1 40 (.ireturn) := ⟨by decide +kernel, rfl⟩
set_option maxRecDepth 100000 in
theorem ii_ho_refusalOfTriples_40 : sm_D prog_1_method_52_code 40 1 41 (.aload_n 0) := ⟨by decide +kernel, rfl⟩
set_option maxRecDepth 100000 in
theorem ii_ho_refusalOfTriples_41 : sm_D prog_1_method_52_code 41 3 44 (.getfield 11) := ⟨by decide +kernel, rfl⟩
set_option maxRecDepth 100000 in
theorem ii_ho_refusalOfTriples_44 : sm_D prog_1_method_52_code 44 1 45 (.iload_n 2) := ⟨by decide +kernel, rfl⟩
set_option maxRecDepth 100000 in
theorem ii_ho_refusalOfTriples_45 : sm_D prog_1_method_52_code 45 1 46 (.aaload) := ⟨by decide +kernel, rfl⟩
set_option maxRecDepth 100000 in
theorem ii_ho_refusalOfTriples_46 : sm_D prog_1_method_52_code 46 3 49 (.getfield 78) := ⟨by decide +kernel, rfl⟩
set_option maxRecDepth 100000 in
theorem ii_ho_refusalOfTriples_49 : sm_D prog_1_method_52_code 49 1 50 (.iconst 3) := ⟨by decide +kernel, rfl⟩
set_option maxRecDepth 100000 in
theorem ii_ho_refusalOfTriples_50 : sm_D prog_1_method_52_code 50 1 51 (.irem) := ⟨by decide +kernel, rfl⟩
set_option maxRecDepth 100000 in
theorem ii_ho_refusalOfTriples_51 : sm_D prog_1_method_52_code 51 3 54 (.ifCond .eq 12) := ⟨by decide +kernel, rfl⟩
set_option maxRecDepth 100000 in
theorem ii_ho_refusalOfTriples_54 : sm_D prog_1_method_52_code 54 1 55 (.aload_n 0) := ⟨by decide +kernel, rfl⟩
set_option maxRecDepth 100000 in
theorem ii_ho_refusalOfTriples_55 : sm_D prog_1_method_52_code 55 3 58 (.getfield 54) := ⟨by decide +kernel, rfl⟩
set_option maxRecDepth 100000 in
theorem ii_ho_refusalOfTriples_58 : sm_D prog_1_method_52_code 58 1 59 (.iconst 5) := ⟨by decide +kernel, rfl⟩
set_option maxRecDepth 100000 in
theorem ii_ho_refusalOfTriples_59 : sm_D prog_1_method_52_code 59 3 62 (.invokevirtual 85) := ⟨by decide +kernel, rfl⟩
set_option maxRecDepth 100000 in
theorem ii_ho_refusalOfTriples_62 : sm_D prog_1_method_52_code 62 1 63 (.ireturn) := ⟨by decide +kernel, rfl⟩
set_option maxRecDepth 100000 in
theorem ii_ho_refusalOfTriples_63 : sm_D prog_1_method_52_code 63 1 64 (.aload_n 0) := ⟨by decide +kernel, rfl⟩
set_option maxRecDepth 100000 in
theorem ii_ho_refusalOfTriples_64 : sm_D prog_1_method_52_code 64 3 67 (.getfield 11) := ⟨by decide +kernel, rfl⟩
set_option maxRecDepth 100000 in
theorem ii_ho_refusalOfTriples_67 : sm_D prog_1_method_52_code 67 1 68 (.iload_n 2) := ⟨by decide +kernel, rfl⟩
set_option maxRecDepth 100000 in
theorem ii_ho_refusalOfTriples_68 : sm_D prog_1_method_52_code 68 1 69 (.aaload) := ⟨by decide +kernel, rfl⟩
set_option maxRecDepth 100000 in
theorem ii_ho_refusalOfTriples_69 : sm_D prog_1_method_52_code 69 3 72 (.invokevirtual 331) := ⟨by decide +kernel, rfl⟩
set_option maxRecDepth 100000 in
theorem ii_ho_refusalOfTriples_72 : sm_D prog_1_method_52_code 72 3 75 (.ifCond .eq 7) := ⟨by decide +kernel, rfl⟩
set_option maxRecDepth 100000 in
theorem ii_ho_refusalOfTriples_75 : sm_D prog_1_method_52_code 75 1 76 (.iconst 0) := ⟨by decide +kernel, rfl⟩
set_option maxRecDepth 100000 in
theorem ii_ho_refusalOfTriples_76 : sm_D prog_1_method_52_code 76 3 79 (.goto 11) := ⟨by decide +kernel, rfl⟩
set_option maxRecDepth 100000 in
theorem ii_ho_refusalOfTriples_79 : sm_D prog_1_method_52_code 79 1 80 (.aload_n 0) := ⟨by decide +kernel, rfl⟩
set_option maxRecDepth 100000 in
theorem ii_ho_refusalOfTriples_80 : sm_D prog_1_method_52_code 80 3 83 (.getfield 54) := ⟨by decide +kernel, rfl⟩
set_option maxRecDepth 100000 in
theorem ii_ho_refusalOfTriples_83 : sm_D prog_1_method_52_code 83 1 84 (.iconst 3) := ⟨by decide +kernel, rfl⟩
set_option maxRecDepth 100000 in
theorem ii_ho_refusalOfTriples_84 : sm_D prog_1_method_52_code 84 3 87 (.invokevirtual 85) := ⟨by decide +kernel, rfl⟩
set_option maxRecDepth 100000 in
theorem ii_ho_refusalOfTriples_87 : sm_D prog_1_method_52_code 87 1 88 (.ireturn) := ⟨by decide +kernel, rfl⟩
noncomputable def ff_ho_refusalOfTriples  (a1 : Int32) (a2 : Int32) (w : sm_Mem) : sm_R := (sm_cI (ff_ho_isSpeaker (a1) w) fun x1 w2 => (if x1 = (0 : Int32) then (some (.int (-1 : Int32), w2)) else (sm_cI (ff_ho_isWithin (a2) ((6 : Int32)) w2) fun x3 w4 => (if x3 = (0 : Int32) then (some (.int (-1 : Int32), w4)) else (Option.bind (sm_rr 1 a2) fun r5 => (sm_cI (sm_rc r5 2 (ff_rw_isMissing (r5) w4)) fun x6 w7 => (if x6 = (0 : Int32) then (Option.bind (sm_rr 1 a2) fun r8 => (Option.bind (sm_gI w7 r8 2 1) fun x9 => (if (3 : Int32) = (0 : Int32) then none else (if (x9 - x9 / (3 : Int32) * (3 : Int32)) = (0 : Int32) then (Option.bind (sm_rr 1 a2) fun r11 => (sm_cI (sm_rc r11 2 (ff_rw_isOfTriples (r11) w7)) fun x12 w13 => (if x12 = (0 : Int32) then (sm_cI (ff_td_refuse ((3 : Int32)) w13) fun x14 w15 => (some (.int x14, w15))) else (some (.int (0 : Int32), w13))))) else (sm_cI (ff_td_refuse ((5 : Int32)) w7) fun x16 w17 => (some (.int x16, w17))))))) else (sm_cI (ff_td_refuse ((1 : Int32)) w7) fun x18 w19 => (some (.int x18, w19))))))))))
set_option maxHeartbeats 4000000 in
set_option maxRecDepth 100000 in
theorem ss_ho_refusalOfTriples_0 {E : Nat × (Nat → Int32)}  (a1 : Int32) (a2 : Int32) (w : sm_Mem) : sm_Sim E (mi_ho_refusalOfTriples) 0 [some (.ref 0), some (.int a1), some (.int a2)] [] w (ff_ho_refusalOfTriples  a1 a2 w) := by
  unfold ff_ho_refusalOfTriples
  refine sm_aload_n ii_ho_refusalOfTriples_0 rfl ?_
  refine sm_iload_n ii_ho_refusalOfTriples_1 rfl ?_
  refine sm_cvI [.int a1] [] rfl ii_ho_refusalOfTriples_2 ml_ho_118 (mf_ho_isSpeaker) (mv_ho_isSpeaker) (Nat.le_of_ble_eq_true rfl) rfl 6 rfl rfl rfl rfl (mc_ho_isSpeaker (a1) w) (fun x1 w2 => ?_)
  refine sm_if_eq 17 ii_ho_refusalOfTriples_5 (by decide) ?_ ?_
  · refine sm_iconst (-1 : Int32) ii_ho_refusalOfTriples_17 (by decide) ?_
    exact sm_iret ii_ho_refusalOfTriples_18 rfl
  · refine sm_iload_n ii_ho_refusalOfTriples_8 rfl ?_
    refine sm_bipush (6 : Int32) ii_ho_refusalOfTriples_9 (by decide) ?_
    refine sm_csI [.int a2, .int (6 : Int32)] [] rfl ii_ho_refusalOfTriples_11 ml_ho_81 (mf_ho_isWithin) (mv_ho_isWithin) (Nat.le_of_ble_eq_true rfl) rfl rfl rfl (mc_ho_isWithin (a2) ((6 : Int32)) w2) (fun x3 w4 => ?_)
    refine sm_if_ne 19 ii_ho_refusalOfTriples_14 (by decide) ?_ ?_
    · refine sm_iconst (-1 : Int32) ii_ho_refusalOfTriples_17 (by decide) ?_
      exact sm_iret ii_ho_refusalOfTriples_18 rfl
    · refine sm_aload_n ii_ho_refusalOfTriples_19 rfl ?_
      refine sm_getR 1 ii_ho_refusalOfTriples_20 fl_ho_11 (k := 0) rfl ?_
      refine sm_iload_n ii_ho_refusalOfTriples_23 rfl ?_
      refine sm_aald ii_ho_refusalOfTriples_24 (fun r5 => ?_)
      refine sm_dvI [] [] rfl ii_ho_refusalOfTriples_25 ml_ho_89 (mf_rw_isMissing) (mv_rw_isMissing) (Nat.le_of_ble_eq_true rfl) rfl 2 rfl rfl rfl (mc_rw_isMissing (r5) w4) (fun x6 w7 => ?_)
      refine sm_if_eq 40 ii_ho_refusalOfTriples_28 (by decide) ?_ ?_
      · refine sm_aload_n ii_ho_refusalOfTriples_40 rfl ?_
        refine sm_getR 1 ii_ho_refusalOfTriples_41 fl_ho_11 (k := 0) rfl ?_
        refine sm_iload_n ii_ho_refusalOfTriples_44 rfl ?_
        refine sm_aald ii_ho_refusalOfTriples_45 (fun r8 => ?_)
        refine sm_getIs ii_ho_refusalOfTriples_46 fl_ho_78 (fun x9 => ?_)
        refine sm_iconst (3 : Int32) ii_ho_refusalOfTriples_49 (by decide) ?_
        refine sm_irem ii_ho_refusalOfTriples_50 ?_
        refine sm_if_eq 63 ii_ho_refusalOfTriples_51 (by decide) ?_ ?_
        · refine sm_aload_n ii_ho_refusalOfTriples_63 rfl ?_
          refine sm_getR 1 ii_ho_refusalOfTriples_64 fl_ho_11 (k := 0) rfl ?_
          refine sm_iload_n ii_ho_refusalOfTriples_67 rfl ?_
          refine sm_aald ii_ho_refusalOfTriples_68 (fun r11 => ?_)
          refine sm_dvI [] [] rfl ii_ho_refusalOfTriples_69 ml_ho_331 (mf_rw_isOfTriples) (mv_rw_isOfTriples) (Nat.le_of_ble_eq_true rfl) rfl 2 rfl rfl rfl (mc_rw_isOfTriples (r11) w7) (fun x12 w13 => ?_)
          refine sm_if_eq 79 ii_ho_refusalOfTriples_72 (by decide) ?_ ?_
          · refine sm_aload_n ii_ho_refusalOfTriples_79 rfl ?_
            refine sm_getR 60 ii_ho_refusalOfTriples_80 fl_ho_54 (k := 0) rfl ?_
            refine sm_iconst (3 : Int32) ii_ho_refusalOfTriples_83 (by decide) ?_
            refine sm_cvI [.int (3 : Int32)] [] rfl ii_ho_refusalOfTriples_84 ml_ho_85 (mf_td_refuse) (mv_td_refuse) (Nat.le_of_ble_eq_true rfl) rfl 3 rfl rfl rfl rfl (mc_td_refuse ((3 : Int32)) w13) (fun x14 w15 => ?_)
            exact sm_iret ii_ho_refusalOfTriples_87 rfl
          · refine sm_iconst (0 : Int32) ii_ho_refusalOfTriples_75 (by decide) ?_
            refine sm_goto 87 ii_ho_refusalOfTriples_76 (by decide) ?_
            exact sm_iret ii_ho_refusalOfTriples_87 rfl
        · refine sm_aload_n ii_ho_refusalOfTriples_54 rfl ?_
          refine sm_getR 60 ii_ho_refusalOfTriples_55 fl_ho_54 (k := 0) rfl ?_
          refine sm_iconst (5 : Int32) ii_ho_refusalOfTriples_58 (by decide) ?_
          refine sm_cvI [.int (5 : Int32)] [] rfl ii_ho_refusalOfTriples_59 ml_ho_85 (mf_td_refuse) (mv_td_refuse) (Nat.le_of_ble_eq_true rfl) rfl 3 rfl rfl rfl rfl (mc_td_refuse ((5 : Int32)) w7) (fun x16 w17 => ?_)
          exact sm_iret ii_ho_refusalOfTriples_62 rfl
      · refine sm_aload_n ii_ho_refusalOfTriples_31 rfl ?_
        refine sm_getR 60 ii_ho_refusalOfTriples_32 fl_ho_54 (k := 0) rfl ?_
        refine sm_iconst (1 : Int32) ii_ho_refusalOfTriples_35 (by decide) ?_
        refine sm_cvI [.int (1 : Int32)] [] rfl ii_ho_refusalOfTriples_36 ml_ho_85 (mf_td_refuse) (mv_td_refuse) (Nat.le_of_ble_eq_true rfl) rfl 3 rfl rfl rfl rfl (mc_td_refuse ((1 : Int32)) w7) (fun x18 w19 => ?_)
        exact sm_iret ii_ho_refusalOfTriples_39 rfl
set_option maxHeartbeats 4000000 in
set_option maxRecDepth 100000 in
theorem mc_ho_refusalOfTriples {E : Nat × (Nat → Int32)} (a1 : Int32) (a2 : Int32) (w : sm_Mem) : sm_MC E mi_ho_refusalOfTriples [.ref 0, .int a1, .int a2] w (ff_ho_refusalOfTriples a1 a2 w) := sm_MC_of E (by decide +kernel) rfl (Nat.le_of_ble_eq_true rfl) (ss_ho_refusalOfTriples_0 a1 a2 w)
abbrev mi_ho_fits : sm_MI := (⟨"HerOrders", "fits", "(IILHerOrders$Row;)Z"⟩, prog_1_method_59_code, 6, (some .boolean), 2)
set_option maxRecDepth 100000 in
theorem mf_ho_fits : sm_MF mi_ho_fits 3 := ⟨List.mem_of_getElem? (i := 651) (by decide +kernel), List.mem_of_getElem? (i := 69) (by decide +kernel), ⟨by decide, by decide⟩, by decide +kernel⟩
set_option maxRecDepth 100000 in
theorem mv_ho_fits : sm_MFV mi_ho_fits := ⟨List.mem_of_getElem? (i := 650) (by decide +kernel), List.mem_of_getElem? (i := 47) (by decide +kernel)⟩
set_option maxRecDepth 100000 in
theorem ii_ho_fits_0 : sm_D prog_1_method_59_code 0 1 1 (.iconst 0) := ⟨by decide +kernel, rfl⟩
set_option maxRecDepth 100000 in
theorem ii_ho_fits_1 : sm_D prog_1_method_59_code 1 2 3 (.istore 4) := ⟨by decide +kernel, rfl⟩
set_option maxRecDepth 100000 in
theorem ii_ho_fits_3 : sm_D prog_1_method_59_code 3 2 5 (.iload 4) := ⟨by decide +kernel, rfl⟩
set_option maxRecDepth 100000 in
theorem ii_ho_fits_5 : sm_D prog_1_method_59_code 5 1 6 (.iconst 2) := ⟨by decide +kernel, rfl⟩
set_option maxRecDepth 100000 in
theorem ii_ho_fits_6 : sm_D prog_1_method_59_code 6 1 7 (.iadd) := ⟨by decide +kernel, rfl⟩
set_option maxRecDepth 100000 in
theorem ii_ho_fits_7 : sm_D prog_1_method_59_code 7 1 8 (.aload_n 3) := ⟨by decide +kernel, rfl⟩
set_option maxRecDepth 100000 in
theorem ii_ho_fits_8 : sm_D prog_1_method_59_code 8 3 11 (.getfield 78) := ⟨by decide +kernel, rfl⟩
set_option maxRecDepth 100000 in
theorem ii_ho_fits_11 : sm_D prog_1_method_59_code 11 3 14 (.if_icmp .ge 61) := ⟨by decide +kernel, rfl⟩
set_option maxRecDepth 100000 in
theorem ii_ho_fits_14 : sm_D prog_1_method_59_code 14 1 15 (.aload_n 0) := ⟨by decide +kernel, rfl⟩
set_option maxRecDepth 100000 in
theorem ii_ho_fits_15 : sm_D prog_1_method_59_code 15 3 18 (.getfield 31) := ⟨by decide +kernel, rfl⟩
set_option maxRecDepth 100000 in
theorem ii_ho_fits_18 : sm_D prog_1_method_59_code 18 1 19 (.iload_n 1) := ⟨by decide +kernel, rfl⟩
set_option maxRecDepth 100000 in
theorem ii_ho_fits_19 : sm_D prog_1_method_59_code 19 1 20 (.iload_n 2) := ⟨by decide +kernel, rfl⟩
set_option maxRecDepth 100000 in
theorem ii_ho_fits_20 : sm_D prog_1_method_59_code 20 1 21 (.aload_n 3) := ⟨by decide +kernel, rfl⟩
set_option maxRecDepth 100000 in
theorem ii_ho_fits_21 : sm_D prog_1_method_59_code 21 3 24 (.getfield 66) := ⟨by decide +kernel, rfl⟩
set_option maxRecDepth 100000 in
theorem ii_ho_fits_24 : sm_D prog_1_method_59_code 24 2 26 (.iload 4) := ⟨by decide +kernel, rfl⟩
set_option maxRecDepth 100000 in
theorem ii_ho_fits_26 : sm_D prog_1_method_59_code 26 1 27 (.iaload) := ⟨by decide +kernel, rfl⟩
set_option maxRecDepth 100000 in
theorem ii_ho_fits_27 : sm_D prog_1_method_59_code 27 1 28 (.aload_n 3) := ⟨by decide +kernel, rfl⟩
set_option maxRecDepth 100000 in
theorem ii_ho_fits_28 : sm_D prog_1_method_59_code 28 3 31 (.getfield 66) := ⟨by decide +kernel, rfl⟩
set_option maxRecDepth 100000 in
theorem ii_ho_fits_31 : sm_D prog_1_method_59_code 31 2 33 (.iload 4) := ⟨by decide +kernel, rfl⟩
set_option maxRecDepth 100000 in
theorem ii_ho_fits_33 : sm_D prog_1_method_59_code 33 1 34 (.iconst 1) := ⟨by decide +kernel, rfl⟩
set_option maxRecDepth 100000 in
theorem ii_ho_fits_34 : sm_D prog_1_method_59_code 34 1 35 (.iadd) := ⟨by decide +kernel, rfl⟩
set_option maxRecDepth 100000 in
theorem ii_ho_fits_35 : sm_D prog_1_method_59_code 35 1 36 (.iaload) := ⟨by decide +kernel, rfl⟩
set_option maxRecDepth 100000 in
theorem ii_ho_fits_36 : sm_D prog_1_method_59_code 36 3 39 (.invokevirtual 352) := ⟨by decide +kernel, rfl⟩
set_option maxRecDepth 100000 in
theorem ii_ho_fits_39 : sm_D prog_1_method_59_code 39 2 41 (.istore 5) := ⟨by decide +kernel, rfl⟩
set_option maxRecDepth 100000 in
theorem ii_ho_fits_41 : sm_D prog_1_method_59_code 41 2 43 (.iload 5) := ⟨by decide +kernel, rfl⟩
set_option maxRecDepth 100000 in
theorem ii_ho_fits_43 : sm_D prog_1_method_59_code 43 1 44 (.aload_n 3) := ⟨by decide +kernel, rfl⟩
set_option maxRecDepth 100000 in
theorem ii_ho_fits_44 : sm_D prog_1_method_59_code 44 3 47 (.getfield 66) := ⟨by decide +kernel, rfl⟩
set_option maxRecDepth 100000 in
theorem ii_ho_fits_47 : sm_D prog_1_method_59_code 47 2 49 (.iload 4) := ⟨by decide +kernel, rfl⟩
set_option maxRecDepth 100000 in
theorem ii_ho_fits_49 : sm_D prog_1_method_59_code 49 1 50 (.iconst 2) := ⟨by decide +kernel, rfl⟩
set_option maxRecDepth 100000 in
theorem ii_ho_fits_50 : sm_D prog_1_method_59_code 50 1 51 (.iadd) := ⟨by decide +kernel, rfl⟩
set_option maxRecDepth 100000 in
theorem ii_ho_fits_51 : sm_D prog_1_method_59_code 51 1 52 (.iaload) := ⟨by decide +kernel, rfl⟩
set_option maxRecDepth 100000 in
theorem ii_ho_fits_52 : sm_D prog_1_method_59_code 52 1 53 (.iconst 1) := ⟨by decide +kernel, rfl⟩
set_option maxRecDepth 100000 in
theorem ii_ho_fits_53 : sm_D prog_1_method_59_code 53 3 56 (.if_icmp .ne 7) := ⟨by decide +kernel, rfl⟩
set_option maxRecDepth 100000 in
theorem ii_ho_fits_56 : sm_D prog_1_method_59_code 56 1 57 (.iconst 1) := ⟨by decide +kernel, rfl⟩
set_option maxRecDepth 100000 in
theorem ii_ho_fits_57 : sm_D prog_1_method_59_code 57 3 60 (.goto 4) := ⟨by decide +kernel, rfl⟩
set_option maxRecDepth 100000 in
theorem ii_ho_fits_60 : sm_D prog_1_method_59_code 60 1 61 (.iconst 0) := ⟨by decide +kernel, rfl⟩
set_option maxRecDepth 100000 in
theorem ii_ho_fits_61 : sm_D prog_1_method_59_code 61 3 64 (.if_icmp .eq 5) := ⟨by decide +kernel, rfl⟩
set_option maxRecDepth 100000 in
theorem ii_ho_fits_64 : sm_D prog_1_method_59_code 64 1 65 (.iconst 0) := ⟨by decide +kernel, rfl⟩
set_option maxRecDepth 100000 in
theorem ii_ho_fits_65 : sm_D prog_1_method_59_code 65 1 66 (.ireturn) := ⟨by decide +kernel, rfl⟩
set_option maxRecDepth 100000 in
theorem ii_ho_fits_66 : sm_D prog_1_method_59_code 66 3 69 (.iinc 4 3) := ⟨by decide +kernel, rfl⟩
set_option maxRecDepth 100000 in
theorem ii_ho_fits_69 : sm_D prog_1_method_59_code 69 3 72 (.goto (-66)) := ⟨by decide +kernel, rfl⟩
set_option maxRecDepth 100000 in
theorem ii_ho_fits_72 : sm_D prog_1_method_59_code 72 1 73 (.iconst 1) := ⟨by decide +kernel, rfl⟩
set_option maxRecDepth 100000 in
theorem ii_ho_fits_73 : sm_D prog_1_method_59_code 73 1 74 (.ireturn) := ⟨by decide +kernel, rfl⟩
noncomputable def ff_ho_fits_61 (self3 : Int32 → Int32 → Nat → Int32 → sm_Mem → sm_R) (a1 : Int32) (a2 : Int32) (a3 : Nat) (a4 : Int32) (b0 : Int32) (b1 : Int32) (w : sm_Mem) : sm_R := (if b0 = b1 then self3 (a1) (a2) (a3) ((a4 + (3 : Int32))) w else (some (.int (0 : Int32), w)))
set_option maxHeartbeats 4000000 in
set_option maxRecDepth 100000 in
theorem ss_ho_fits_61 {E : Nat × (Nat → Int32)} (self3 : Int32 → Int32 → Nat → Int32 → sm_Mem → sm_R) (hself3 : ∀ (a1 : Int32) (a2 : Int32) (a3 : Nat) (a4 : Int32) (w : sm_Mem), sm_Sim E (mi_ho_fits) 3 [some (.ref 0), some (.int a1), some (.int a2), some (.ref a3), some (.int a4), none] [] w (self3 a1 a2 a3 a4 w)) (a1 : Int32) (a2 : Int32) (a3 : Nat) (a4 : Int32) (b0 : Int32) (b1 : Int32) (w : sm_Mem) : sm_Sim E (mi_ho_fits) 61 [some (.ref 0), some (.int a1), some (.int a2), some (.ref a3), some (.int a4), none] [.int b1, .int b0] w (ff_ho_fits_61 self3 a1 a2 a3 a4 b0 b1 w) := by
  unfold ff_ho_fits_61
  refine sm_icmp_eq 66 ii_ho_fits_61 (by decide) ?_ ?_
  · refine sm_iinc (a4 + (3 : Int32)) [some (.ref 0), some (.int a1), some (.int a2), some (.ref a3), some (.int (a4 + (3 : Int32))), none] ii_ho_fits_66 rfl rfl rfl rfl ?_
    refine sm_goto 3 ii_ho_fits_69 (by decide) ?_
    exact hself3 (a1) (a2) (a3) ((a4 + (3 : Int32))) w
  · refine sm_iconst (0 : Int32) ii_ho_fits_64 (by decide) ?_
    exact sm_zret1 ii_ho_fits_65 rfl (by decide)
noncomputable def ff_ho_fits_3_b  (self3 : Int32 → Int32 → Nat → Int32 → sm_Mem → sm_R) (a1 : Int32) (a2 : Int32) (a3 : Nat) (a4 : Int32) (w : sm_Mem) : sm_R := (Option.bind (sm_gI w a3 2 1) fun x1 => (if x1 ≤ (a4 + (2 : Int32)) then (some (.int (1 : Int32), w)) else (Option.bind (sm_fk a3 2 0 2) fun r2 => (Option.bind (sm_rds w r2 a4) fun x3 => (Option.bind (sm_fk a3 2 0 2) fun r4 => (Option.bind (sm_rds w r4 (a4 + (1 : Int32))) fun x5 => (sm_cI (ff_hs_isAble (a1) (a2) (x3) (x5) w) fun x6 w7 => (Option.bind (sm_fk a3 2 0 2) fun r8 => (Option.bind (sm_rds w7 r8 (a4 + (2 : Int32))) fun x9 => (if x9 = (1 : Int32) then ff_ho_fits_61 self3 (a1) (a2) (a3) (a4) (x6) ((1 : Int32)) w7 else ff_ho_fits_61 self3 (a1) (a2) (a3) (a4) (x6) ((0 : Int32)) w7))))))))))
noncomputable def ff_ho_fits_3_f  : Nat → Int32 → Int32 → Nat → Int32 → sm_Mem → sm_R
  | 0, _, _, _, _, _ => none
  | n + 1, a1, a2, a3, a4, w => ff_ho_fits_3_b  (ff_ho_fits_3_f  n) a1 a2 a3 a4 w
noncomputable def ff_ho_fits_3  (a1 : Int32) (a2 : Int32) (a3 : Nat) (a4 : Int32) (w : sm_Mem) : sm_R := ff_ho_fits_3_f  sm_N a1 a2 a3 a4 w
set_option maxHeartbeats 4000000 in
set_option maxRecDepth 100000 in
theorem ss_ho_fits_3_b {E : Nat × (Nat → Int32)}  (self3 : Int32 → Int32 → Nat → Int32 → sm_Mem → sm_R) (hself3 : ∀ (a1 : Int32) (a2 : Int32) (a3 : Nat) (a4 : Int32) (w : sm_Mem), sm_Sim E (mi_ho_fits) 3 [some (.ref 0), some (.int a1), some (.int a2), some (.ref a3), some (.int a4), none] [] w (self3 a1 a2 a3 a4 w)) (a1 : Int32) (a2 : Int32) (a3 : Nat) (a4 : Int32) (w : sm_Mem) : sm_Sim E (mi_ho_fits) 3 [some (.ref 0), some (.int a1), some (.int a2), some (.ref a3), some (.int a4), none] [] w (ff_ho_fits_3_b  self3 a1 a2 a3 a4 w) := by
  unfold ff_ho_fits_3_b
  refine sm_iload ii_ho_fits_3 rfl ?_
  refine sm_iconst (2 : Int32) ii_ho_fits_5 (by decide) ?_
  refine sm_iadd ii_ho_fits_6 ?_
  refine sm_aload_n ii_ho_fits_7 rfl ?_
  refine sm_getIs ii_ho_fits_8 fl_ho_78 (fun x1 => ?_)
  refine sm_icmp_ge 72 ii_ho_fits_11 (by decide) ?_ ?_
  · refine sm_iconst (1 : Int32) ii_ho_fits_72 (by decide) ?_
    exact sm_zret1 ii_ho_fits_73 rfl (by decide)
  · refine sm_aload_n ii_ho_fits_14 rfl ?_
    refine sm_getR 36 ii_ho_fits_15 fl_ho_31 (k := 0) rfl ?_
    refine sm_iload_n ii_ho_fits_18 rfl ?_
    refine sm_iload_n ii_ho_fits_19 rfl ?_
    refine sm_aload_n ii_ho_fits_20 rfl ?_
    refine sm_getRs ii_ho_fits_21 fl_ho_66 (fun r2 => ?_)
    refine sm_iload ii_ho_fits_24 rfl ?_
    refine sm_ialds ii_ho_fits_26 (fun x3 => ?_)
    refine sm_aload_n ii_ho_fits_27 rfl ?_
    refine sm_getRs ii_ho_fits_28 fl_ho_66 (fun r4 => ?_)
    refine sm_iload ii_ho_fits_31 rfl ?_
    refine sm_iconst (1 : Int32) ii_ho_fits_33 (by decide) ?_
    refine sm_iadd ii_ho_fits_34 ?_
    refine sm_ialds ii_ho_fits_35 (fun x5 => ?_)
    refine sm_cvI [.int a1, .int a2, .int x3, .int x5] [] rfl ii_ho_fits_36 ml_ho_352 (mf_hs_isAble) (mv_hs_isAble) (Nat.le_of_ble_eq_true rfl) rfl 1 rfl rfl rfl rfl (mc_hs_isAble (a1) (a2) (x3) (x5) w) (fun x6 w7 => ?_)
    refine sm_istore [some (.ref 0), some (.int a1), some (.int a2), some (.ref a3), some (.int a4), some (.int x6)] ii_ho_fits_39 rfl rfl ?_
    refine sm_iload ii_ho_fits_41 rfl ?_
    refine sm_aload_n ii_ho_fits_43 rfl ?_
    refine sm_getRs ii_ho_fits_44 fl_ho_66 (fun r8 => ?_)
    refine sm_iload ii_ho_fits_47 rfl ?_
    refine sm_iconst (2 : Int32) ii_ho_fits_49 (by decide) ?_
    refine sm_iadd ii_ho_fits_50 ?_
    refine sm_ialds ii_ho_fits_51 (fun x9 => ?_)
    refine sm_iconst (1 : Int32) ii_ho_fits_52 (by decide) ?_
    refine sm_icmp_ne 60 ii_ho_fits_53 (by decide) ?_ ?_
    · refine sm_iconst (1 : Int32) ii_ho_fits_56 (by decide) ?_
      refine sm_goto 61 ii_ho_fits_57 (by decide) ?_
      refine sm_msk [true, true, true, true, true, false] [some (.ref 0), some (.int a1), some (.int a2), some (.ref a3), some (.int a4), none] rfl ?_
      exact ss_ho_fits_61 self3 hself3 (a1) (a2) (a3) (a4) (x6) ((1 : Int32)) w7
    · refine sm_iconst (0 : Int32) ii_ho_fits_60 (by decide) ?_
      refine sm_msk [true, true, true, true, true, false] [some (.ref 0), some (.int a1), some (.int a2), some (.ref a3), some (.int a4), none] rfl ?_
      exact ss_ho_fits_61 self3 hself3 (a1) (a2) (a3) (a4) (x6) ((0 : Int32)) w7
set_option maxHeartbeats 4000000 in
set_option maxRecDepth 100000 in
theorem ss_ho_fits_3_f {E : Nat × (Nat → Int32)}  : ∀ (n : Nat) (a1 : Int32) (a2 : Int32) (a3 : Nat) (a4 : Int32) (w : sm_Mem), sm_Sim E (mi_ho_fits) 3 [some (.ref 0), some (.int a1), some (.int a2), some (.ref a3), some (.int a4), none] [] w (ff_ho_fits_3_f  n a1 a2 a3 a4 w)
  | 0, _, _, _, _, _ => fun _ _ h => by cases h
  | n + 1, a1, a2, a3, a4, w => ss_ho_fits_3_b  _ (ss_ho_fits_3_f  n) a1 a2 a3 a4 w
set_option maxHeartbeats 4000000 in
set_option maxRecDepth 100000 in
theorem ss_ho_fits_3 {E : Nat × (Nat → Int32)}  (a1 : Int32) (a2 : Int32) (a3 : Nat) (a4 : Int32) (w : sm_Mem) : sm_Sim E (mi_ho_fits) 3 [some (.ref 0), some (.int a1), some (.int a2), some (.ref a3), some (.int a4), none] [] w (ff_ho_fits_3  a1 a2 a3 a4 w) := ss_ho_fits_3_f  sm_N a1 a2 a3 a4 w
noncomputable def ff_ho_fits  (a1 : Int32) (a2 : Int32) (a3 : Nat) (w : sm_Mem) : sm_R := ff_ho_fits_3 (a1) (a2) (a3) ((0 : Int32)) w
set_option maxHeartbeats 4000000 in
set_option maxRecDepth 100000 in
theorem ss_ho_fits_0 {E : Nat × (Nat → Int32)}  (a1 : Int32) (a2 : Int32) (a3 : Nat) (w : sm_Mem) : sm_Sim E (mi_ho_fits) 0 [some (.ref 0), some (.int a1), some (.int a2), some (.ref a3), none, none] [] w (ff_ho_fits  a1 a2 a3 w) := by
  unfold ff_ho_fits
  refine sm_iconst (0 : Int32) ii_ho_fits_0 (by decide) ?_
  refine sm_istore [some (.ref 0), some (.int a1), some (.int a2), some (.ref a3), some (.int (0 : Int32)), none] ii_ho_fits_1 rfl rfl ?_
  exact ss_ho_fits_3 (a1) (a2) (a3) ((0 : Int32)) w
set_option maxHeartbeats 4000000 in
set_option maxRecDepth 100000 in
theorem mc_ho_fits {E : Nat × (Nat → Int32)} (a1 : Int32) (a2 : Int32) (a3 : Nat) (w : sm_Mem) : sm_MC E mi_ho_fits [.ref 0, .int a1, .int a2, .ref a3] w (ff_ho_fits a1 a2 a3 w) := sm_MC_of E (by decide +kernel) rfl (Nat.le_of_ble_eq_true rfl) (ss_ho_fits_0 a1 a2 a3 w)
abbrev mi_ho_kindsBy : sm_MI := (⟨"HerOrders", "kindsBy", "(ILHerOrders$Row;)I"⟩, prog_1_method_58_code, 5, (some .int), 3)
set_option maxRecDepth 100000 in
theorem mf_ho_kindsBy : sm_MF mi_ho_kindsBy 2 := ⟨List.mem_of_getElem? (i := 647) (by decide +kernel), List.mem_of_getElem? (i := 69) (by decide +kernel), ⟨by decide, by decide⟩, by decide +kernel⟩
set_option maxRecDepth 100000 in
theorem mv_ho_kindsBy : sm_MFV mi_ho_kindsBy := ⟨List.mem_of_getElem? (i := 646) (by decide +kernel), List.mem_of_getElem? (i := 46) (by decide +kernel)⟩
set_option maxRecDepth 100000 in
theorem ii_ho_kindsBy_0 : sm_D prog_1_method_58_code 0 1 1 (.iconst 0) := ⟨by decide +kernel, rfl⟩
set_option maxRecDepth 100000 in
theorem ii_ho_kindsBy_1 : sm_D prog_1_method_58_code 1 1 2 (.istore_n 3) := ⟨by decide +kernel, rfl⟩
set_option maxRecDepth 100000 in
theorem ii_ho_kindsBy_2 : sm_D prog_1_method_58_code 2 1 3 (.iconst 0) := ⟨by decide +kernel, rfl⟩
set_option maxRecDepth 100000 in
theorem ii_ho_kindsBy_3 : sm_D prog_1_method_58_code 3 2 5 (.istore 4) := ⟨by decide +kernel, rfl⟩
set_option maxRecDepth 100000 in
theorem ii_ho_kindsBy_5 : sm_D prog_1_method_58_code 5 2 7 (.iload 4) := ⟨by decide +kernel, rfl⟩
set_option maxRecDepth 100000 in
theorem ii_ho_kindsBy_7 : sm_D prog_1_method_58_code 7 2 9 (.bipush 6) := ⟨by decide +kernel, rfl⟩
set_option maxRecDepth 100000 in
theorem ii_ho_kindsBy_9 : sm_D prog_1_method_58_code 9 3 12 (.if_icmp .ge 27) := ⟨by decide +kernel, rfl⟩
set_option maxRecDepth 100000 in
theorem ii_ho_kindsBy_12 : sm_D prog_1_method_58_code 12 1 13 (.aload_n 0) := ⟨by decide +kernel, rfl⟩
set_option maxRecDepth 100000 in
theorem ii_ho_kindsBy_13 : sm_D prog_1_method_58_code 13 1 14 (.iload_n 1) := ⟨by decide +kernel, rfl⟩
set_option maxRecDepth 100000 in
theorem ii_ho_kindsBy_14 : sm_D prog_1_method_58_code 14 2 16 (.iload 4) := ⟨by decide +kernel, rfl⟩
set_option maxRecDepth 100000 in
theorem ii_ho_kindsBy_16 : sm_D prog_1_method_58_code 16 1 17 (.aload_n 2) := ⟨by decide +kernel, rfl⟩
set_option maxRecDepth 100000 in
theorem ii_ho_kindsBy_17 : sm_D prog_1_method_58_code 17 3 20 (.invokevirtual 348) := ⟨by decide +kernel, rfl⟩
set_option maxRecDepth 100000 in
theorem ii_ho_kindsBy_20 : sm_D prog_1_method_58_code 20 3 23 (.ifCond .eq 10) := ⟨by decide +kernel, rfl⟩
set_option maxRecDepth 100000 in
theorem ii_ho_kindsBy_23 : sm_D prog_1_method_58_code 23 1 24 (.iload_n 3) := ⟨by decide +kernel, rfl⟩
set_option maxRecDepth 100000 in
theorem ii_ho_kindsBy_24 : sm_D prog_1_method_58_code 24 1 25 (.iconst 1) := ⟨by decide +kernel, rfl⟩
set_option maxRecDepth 100000 in
theorem ii_ho_kindsBy_25 : sm_D prog_1_method_58_code 25 2 27 (.iload 4) := ⟨by decide +kernel, rfl⟩
set_option maxRecDepth 100000 in
theorem ii_ho_kindsBy_27 : sm_D prog_1_method_58_code 27 1 28 (.ishl) := ⟨by decide +kernel, rfl⟩
set_option maxRecDepth 100000 in
theorem ii_ho_kindsBy_28 : sm_D prog_1_method_58_code 28 1 29 (.ior) := ⟨by decide +kernel, rfl⟩
set_option maxRecDepth 100000 in
theorem ii_ho_kindsBy_29 : sm_D prog_1_method_58_code 29 1 30 (.istore_n 3) := ⟨by decide +kernel, rfl⟩
set_option maxRecDepth 100000 in
theorem ii_ho_kindsBy_30 : sm_D prog_1_method_58_code 30 3 33 (.iinc 4 1) := ⟨by decide +kernel, rfl⟩
set_option maxRecDepth 100000 in
theorem ii_ho_kindsBy_33 : sm_D prog_1_method_58_code 33 3 36 (.goto (-28)) := ⟨by decide +kernel, rfl⟩
set_option maxRecDepth 100000 in
theorem ii_ho_kindsBy_36 : sm_D prog_1_method_58_code 36 1 37 (.iload_n 3) := ⟨by decide +kernel, rfl⟩
set_option maxRecDepth 100000 in
theorem ii_ho_kindsBy_37 : sm_D prog_1_method_58_code 37 1 38 (.ireturn) := ⟨by decide +kernel, rfl⟩
noncomputable def ff_ho_kindsBy_5_b  (self5 : Int32 → Nat → Int32 → Int32 → sm_Mem → sm_R) (a1 : Int32) (a2 : Nat) (a3 : Int32) (a4 : Int32) (w : sm_Mem) : sm_R := (if (6 : Int32) ≤ a4 then (some (.int a3, w)) else (sm_cI (ff_ho_fits (a1) (a4) (a2) w) fun x1 w2 => (if x1 = (0 : Int32) then self5 (a1) (a2) (a3) ((a4 + (1 : Int32))) w2 else self5 (a1) (a2) ((a3 ||| ((1 : Int32) <<< (a4 &&& (31 : Int32))))) ((a4 + (1 : Int32))) w2)))
noncomputable def ff_ho_kindsBy_5_f  : Nat → Int32 → Nat → Int32 → Int32 → sm_Mem → sm_R
  | 0, _, _, _, _, _ => none
  | n + 1, a1, a2, a3, a4, w => ff_ho_kindsBy_5_b  (ff_ho_kindsBy_5_f  n) a1 a2 a3 a4 w
noncomputable def ff_ho_kindsBy_5  (a1 : Int32) (a2 : Nat) (a3 : Int32) (a4 : Int32) (w : sm_Mem) : sm_R := ff_ho_kindsBy_5_f  sm_N a1 a2 a3 a4 w
set_option maxHeartbeats 4000000 in
set_option maxRecDepth 100000 in
theorem ss_ho_kindsBy_5_b {E : Nat × (Nat → Int32)}  (self5 : Int32 → Nat → Int32 → Int32 → sm_Mem → sm_R) (hself5 : ∀ (a1 : Int32) (a2 : Nat) (a3 : Int32) (a4 : Int32) (w : sm_Mem), sm_Sim E (mi_ho_kindsBy) 5 [some (.ref 0), some (.int a1), some (.ref a2), some (.int a3), some (.int a4)] [] w (self5 a1 a2 a3 a4 w)) (a1 : Int32) (a2 : Nat) (a3 : Int32) (a4 : Int32) (w : sm_Mem) : sm_Sim E (mi_ho_kindsBy) 5 [some (.ref 0), some (.int a1), some (.ref a2), some (.int a3), some (.int a4)] [] w (ff_ho_kindsBy_5_b  self5 a1 a2 a3 a4 w) := by
  unfold ff_ho_kindsBy_5_b
  refine sm_iload ii_ho_kindsBy_5 rfl ?_
  refine sm_bipush (6 : Int32) ii_ho_kindsBy_7 (by decide) ?_
  refine sm_icmp_ge 36 ii_ho_kindsBy_9 (by decide) ?_ ?_
  · refine sm_iload_n ii_ho_kindsBy_36 rfl ?_
    exact sm_iret ii_ho_kindsBy_37 rfl
  · refine sm_aload_n ii_ho_kindsBy_12 rfl ?_
    refine sm_iload_n ii_ho_kindsBy_13 rfl ?_
    refine sm_iload ii_ho_kindsBy_14 rfl ?_
    refine sm_aload_n ii_ho_kindsBy_16 rfl ?_
    refine sm_cvI [.int a1, .int a4, .ref a2] [] rfl ii_ho_kindsBy_17 ml_ho_348 (mf_ho_fits) (mv_ho_fits) (Nat.le_of_ble_eq_true rfl) rfl 6 rfl rfl rfl rfl (mc_ho_fits (a1) (a4) (a2) w) (fun x1 w2 => ?_)
    refine sm_if_eq 30 ii_ho_kindsBy_20 (by decide) ?_ ?_
    · refine sm_iinc (a4 + (1 : Int32)) [some (.ref 0), some (.int a1), some (.ref a2), some (.int a3), some (.int (a4 + (1 : Int32)))] ii_ho_kindsBy_30 rfl rfl rfl rfl ?_
      refine sm_goto 5 ii_ho_kindsBy_33 (by decide) ?_
      exact hself5 (a1) (a2) (a3) ((a4 + (1 : Int32))) w2
    · refine sm_iload_n ii_ho_kindsBy_23 rfl ?_
      refine sm_iconst (1 : Int32) ii_ho_kindsBy_24 (by decide) ?_
      refine sm_iload ii_ho_kindsBy_25 rfl ?_
      refine sm_ishl ii_ho_kindsBy_27 ?_
      refine sm_ior ii_ho_kindsBy_28 ?_
      refine sm_istore_n [some (.ref 0), some (.int a1), some (.ref a2), some (.int (a3 ||| ((1 : Int32) <<< (a4 &&& (31 : Int32))))), some (.int a4)] ii_ho_kindsBy_29 rfl rfl ?_
      refine sm_iinc (a4 + (1 : Int32)) [some (.ref 0), some (.int a1), some (.ref a2), some (.int (a3 ||| ((1 : Int32) <<< (a4 &&& (31 : Int32))))), some (.int (a4 + (1 : Int32)))] ii_ho_kindsBy_30 rfl rfl rfl rfl ?_
      refine sm_goto 5 ii_ho_kindsBy_33 (by decide) ?_
      exact hself5 (a1) (a2) ((a3 ||| ((1 : Int32) <<< (a4 &&& (31 : Int32))))) ((a4 + (1 : Int32))) w2
set_option maxHeartbeats 4000000 in
set_option maxRecDepth 100000 in
theorem ss_ho_kindsBy_5_f {E : Nat × (Nat → Int32)}  : ∀ (n : Nat) (a1 : Int32) (a2 : Nat) (a3 : Int32) (a4 : Int32) (w : sm_Mem), sm_Sim E (mi_ho_kindsBy) 5 [some (.ref 0), some (.int a1), some (.ref a2), some (.int a3), some (.int a4)] [] w (ff_ho_kindsBy_5_f  n a1 a2 a3 a4 w)
  | 0, _, _, _, _, _ => fun _ _ h => by cases h
  | n + 1, a1, a2, a3, a4, w => ss_ho_kindsBy_5_b  _ (ss_ho_kindsBy_5_f  n) a1 a2 a3 a4 w
set_option maxHeartbeats 4000000 in
set_option maxRecDepth 100000 in
theorem ss_ho_kindsBy_5 {E : Nat × (Nat → Int32)}  (a1 : Int32) (a2 : Nat) (a3 : Int32) (a4 : Int32) (w : sm_Mem) : sm_Sim E (mi_ho_kindsBy) 5 [some (.ref 0), some (.int a1), some (.ref a2), some (.int a3), some (.int a4)] [] w (ff_ho_kindsBy_5  a1 a2 a3 a4 w) := ss_ho_kindsBy_5_f  sm_N a1 a2 a3 a4 w
noncomputable def ff_ho_kindsBy  (a1 : Int32) (a2 : Nat) (w : sm_Mem) : sm_R := ff_ho_kindsBy_5 (a1) (a2) ((0 : Int32)) ((0 : Int32)) w
set_option maxHeartbeats 4000000 in
set_option maxRecDepth 100000 in
theorem ss_ho_kindsBy_0 {E : Nat × (Nat → Int32)}  (a1 : Int32) (a2 : Nat) (w : sm_Mem) : sm_Sim E (mi_ho_kindsBy) 0 [some (.ref 0), some (.int a1), some (.ref a2), none, none] [] w (ff_ho_kindsBy  a1 a2 w) := by
  unfold ff_ho_kindsBy
  refine sm_iconst (0 : Int32) ii_ho_kindsBy_0 (by decide) ?_
  refine sm_istore_n [some (.ref 0), some (.int a1), some (.ref a2), some (.int (0 : Int32)), none] ii_ho_kindsBy_1 rfl rfl ?_
  refine sm_iconst (0 : Int32) ii_ho_kindsBy_2 (by decide) ?_
  refine sm_istore [some (.ref 0), some (.int a1), some (.ref a2), some (.int (0 : Int32)), some (.int (0 : Int32))] ii_ho_kindsBy_3 rfl rfl ?_
  exact ss_ho_kindsBy_5 (a1) (a2) ((0 : Int32)) ((0 : Int32)) w
set_option maxHeartbeats 4000000 in
set_option maxRecDepth 100000 in
theorem mc_ho_kindsBy {E : Nat × (Nat → Int32)} (a1 : Int32) (a2 : Nat) (w : sm_Mem) : sm_MC E mi_ho_kindsBy [.ref 0, .int a1, .ref a2] w (ff_ho_kindsBy a1 a2 w) := sm_MC_of E (by decide +kernel) rfl (Nat.le_of_ble_eq_true rfl) (ss_ho_kindsBy_0 a1 a2 w)
abbrev mi_ho_kinds : sm_MI := (⟨"HerOrders", "kinds", "(II)I"⟩, prog_1_method_31_code, 4, (some .int), 4)
set_option maxRecDepth 100000 in
theorem mf_ho_kinds : sm_MF mi_ho_kinds 2 := ⟨List.mem_of_getElem? (i := 635) (by decide +kernel), List.mem_of_getElem? (i := 69) (by decide +kernel), ⟨by decide, by decide⟩, by decide +kernel⟩
set_option maxRecDepth 100000 in
theorem mv_ho_kinds : sm_MFV mi_ho_kinds := ⟨List.mem_of_getElem? (i := 633) (by decide +kernel), List.mem_of_getElem? (i := 634) (by decide +kernel)⟩
set_option maxRecDepth 100000 in
theorem ii_ho_kinds_0 : sm_D prog_1_method_31_code 0 1 1 (.aload_n 0) := ⟨by decide +kernel, rfl⟩
set_option maxRecDepth 100000 in
theorem ii_ho_kinds_1 : sm_D prog_1_method_31_code 1 1 2 (.iload_n 1) := ⟨by decide +kernel, rfl⟩
set_option maxRecDepth 100000 in
theorem ii_ho_kinds_2 : sm_D prog_1_method_31_code 2 1 3 (.iload_n 2) := ⟨by decide +kernel, rfl⟩
set_option maxRecDepth 100000 in
theorem ii_ho_kinds_3 : sm_D prog_1_method_31_code 3 3 6 (.invokevirtual 255) := ⟨by decide +kernel, rfl⟩
set_option maxRecDepth 100000 in
theorem ii_ho_kinds_6 : sm_D prog_1_method_31_code 6 1 7 (.istore_n 3) := ⟨by decide +kernel, rfl⟩
set_option maxRecDepth 100000 in
theorem ii_ho_kinds_7 : sm_D prog_1_method_31_code 7 1 8 (.iload_n 3) := ⟨by decide +kernel, rfl⟩
set_option maxRecDepth 100000 in
theorem ii_ho_kinds_8 : sm_D prog_1_method_31_code 8 3 11 (.ifCond .eq 5) := ⟨by decide +kernel, rfl⟩
set_option maxRecDepth 100000 in
theorem ii_ho_kinds_11 : sm_D prog_1_method_31_code 11 1 12 (.iload_n 3) := ⟨by decide +kernel, rfl⟩
set_option maxRecDepth 100000 in
theorem ii_ho_kinds_12 : sm_D prog_1_method_31_code 12 1 13 (.ireturn) := ⟨by decide +kernel, rfl⟩
set_option maxRecDepth 100000 in
theorem ii_ho_kinds_13 : sm_D prog_1_method_31_code 13 1 14 (.aload_n 0) := ⟨by decide +kernel, rfl⟩
set_option maxRecDepth 100000 in
theorem ii_ho_kinds_14 : sm_D prog_1_method_31_code 14 1 15 (.iload_n 1) := ⟨by decide +kernel, rfl⟩
set_option maxRecDepth 100000 in
theorem ii_ho_kinds_15 : sm_D prog_1_method_31_code 15 1 16 (.aload_n 0) := ⟨by decide +kernel, rfl⟩
set_option maxRecDepth 100000 in
theorem ii_ho_kinds_16 : sm_D prog_1_method_31_code 16 3 19 (.getfield 11) := ⟨by decide +kernel, rfl⟩
set_option maxRecDepth 100000 in
theorem ii_ho_kinds_19 : sm_D prog_1_method_31_code 19 1 20 (.iload_n 2) := ⟨by decide +kernel, rfl⟩
set_option maxRecDepth 100000 in
theorem ii_ho_kinds_20 : sm_D prog_1_method_31_code 20 1 21 (.aaload) := ⟨by decide +kernel, rfl⟩
set_option maxRecDepth 100000 in
theorem ii_ho_kinds_21 : sm_D prog_1_method_31_code 21 3 24 (.invokevirtual 258) := ⟨by decide +kernel, rfl⟩
set_option maxRecDepth 100000 in
theorem ii_ho_kinds_24 : sm_D prog_1_method_31_code 24 1 25 (.ireturn) := ⟨by decide +kernel, rfl⟩
noncomputable def ff_ho_kinds  (a1 : Int32) (a2 : Int32) (w : sm_Mem) : sm_R := (sm_cI (ff_ho_refusalOfTriples (a1) (a2) w) fun x1 w2 => (if x1 = (0 : Int32) then (Option.bind (sm_rr 1 a2) fun r3 => (sm_cI (ff_ho_kindsBy (a1) (r3) w2) fun x4 w5 => (some (.int x4, w5)))) else (some (.int x1, w2))))
set_option maxHeartbeats 4000000 in
set_option maxRecDepth 100000 in
theorem ss_ho_kinds_0 {E : Nat × (Nat → Int32)}  (a1 : Int32) (a2 : Int32) (w : sm_Mem) : sm_Sim E (mi_ho_kinds) 0 [some (.ref 0), some (.int a1), some (.int a2), none] [] w (ff_ho_kinds  a1 a2 w) := by
  unfold ff_ho_kinds
  refine sm_aload_n ii_ho_kinds_0 rfl ?_
  refine sm_iload_n ii_ho_kinds_1 rfl ?_
  refine sm_iload_n ii_ho_kinds_2 rfl ?_
  refine sm_cvI [.int a1, .int a2] [] rfl ii_ho_kinds_3 ml_ho_255 (mf_ho_refusalOfTriples) (mv_ho_refusalOfTriples) (Nat.le_of_ble_eq_true rfl) rfl 6 rfl rfl rfl rfl (mc_ho_refusalOfTriples (a1) (a2) w) (fun x1 w2 => ?_)
  refine sm_istore_n [some (.ref 0), some (.int a1), some (.int a2), some (.int x1)] ii_ho_kinds_6 rfl rfl ?_
  refine sm_iload_n ii_ho_kinds_7 rfl ?_
  refine sm_if_eq 13 ii_ho_kinds_8 (by decide) ?_ ?_
  · refine sm_aload_n ii_ho_kinds_13 rfl ?_
    refine sm_iload_n ii_ho_kinds_14 rfl ?_
    refine sm_aload_n ii_ho_kinds_15 rfl ?_
    refine sm_getR 1 ii_ho_kinds_16 fl_ho_11 (k := 0) rfl ?_
    refine sm_iload_n ii_ho_kinds_19 rfl ?_
    refine sm_aald ii_ho_kinds_20 (fun r3 => ?_)
    refine sm_cvI [.int a1, .ref r3] [] rfl ii_ho_kinds_21 ml_ho_258 (mf_ho_kindsBy) (mv_ho_kindsBy) (Nat.le_of_ble_eq_true rfl) rfl 6 rfl rfl rfl rfl (mc_ho_kindsBy (a1) (r3) w2) (fun x4 w5 => ?_)
    exact sm_iret ii_ho_kinds_24 rfl
  · refine sm_iload_n ii_ho_kinds_11 rfl ?_
    exact sm_iret ii_ho_kinds_12 rfl
set_option maxHeartbeats 4000000 in
set_option maxRecDepth 100000 in
theorem mc_ho_kinds {E : Nat × (Nat → Int32)} (a1 : Int32) (a2 : Int32) (w : sm_Mem) : sm_MC E mi_ho_kinds [.ref 0, .int a1, .int a2] w (ff_ho_kinds a1 a2 w) := sm_MC_of E (by decide +kernel) rfl (Nat.le_of_ble_eq_true rfl) (ss_ho_kinds_0 a1 a2 w)
abbrev mi_ho_greaterPart : sm_MI := (⟨"HerOrders", "greaterPart", "(IIII)I"⟩, prog_1_method_60_code, 8, (some .int), 2)
set_option maxRecDepth 100000 in
theorem mf_ho_greaterPart : sm_MF mi_ho_greaterPart 4 := ⟨List.mem_of_getElem? (i := 660) (by decide +kernel), List.mem_of_getElem? (i := 69) (by decide +kernel), ⟨by decide, by decide⟩, by decide +kernel⟩
set_option maxRecDepth 100000 in
theorem mv_ho_greaterPart : sm_MFV mi_ho_greaterPart := ⟨List.mem_of_getElem? (i := 659) (by decide +kernel), List.mem_of_getElem? (i := 48) (by decide +kernel)⟩
set_option maxRecDepth 100000 in
theorem ii_ho_greaterPart_0 : sm_D prog_1_method_60_code 0 1 1 (.iconst 0) := ⟨by decide +kernel, rfl⟩
set_option maxRecDepth 100000 in
theorem ii_ho_greaterPart_1 : sm_D prog_1_method_60_code 1 2 3 (.istore 5) := ⟨by decide +kernel, rfl⟩
set_option maxRecDepth 100000 in
theorem ii_ho_greaterPart_3 : sm_D prog_1_method_60_code 3 1 4 (.iconst 0) := ⟨by decide +kernel, rfl⟩
set_option maxRecDepth 100000 in
theorem ii_ho_greaterPart_4 : sm_D prog_1_method_60_code 4 2 6 (.istore 6) := ⟨by decide +kernel, rfl⟩
set_option maxRecDepth 100000 in
theorem ii_ho_greaterPart_6 : sm_D prog_1_method_60_code 6 1 7 (.iconst 0) := ⟨by decide +kernel, rfl⟩
set_option maxRecDepth 100000 in
theorem ii_ho_greaterPart_7 : sm_D prog_1_method_60_code 7 2 9 (.istore 7) := ⟨by decide +kernel, rfl⟩
set_option maxRecDepth 100000 in
theorem ii_ho_greaterPart_9 : sm_D prog_1_method_60_code 9 2 11 (.iload 7) := ⟨by decide +kernel, rfl⟩
set_option maxRecDepth 100000 in
theorem ii_ho_greaterPart_11 : sm_D prog_1_method_60_code 11 2 13 (.bipush 6) := ⟨by decide +kernel, rfl⟩
set_option maxRecDepth 100000 in
theorem ii_ho_greaterPart_13 : sm_D prog_1_method_60_code 13 3 16 (.if_icmp .ge 46) := ⟨by decide +kernel, rfl⟩
set_option maxRecDepth 100000 in
theorem ii_ho_greaterPart_16 : sm_D prog_1_method_60_code 16 1 17 (.iload_n 2) := ⟨by decide +kernel, rfl⟩
set_option maxRecDepth 100000 in
theorem ii_ho_greaterPart_17 : sm_D prog_1_method_60_code 17 2 19 (.iload 7) := ⟨by decide +kernel, rfl⟩
set_option maxRecDepth 100000 in
theorem ii_ho_greaterPart_19 : sm_D prog_1_method_60_code 19 1 20 (.ishr) := ⟨by decide +kernel, rfl⟩
set_option maxRecDepth 100000 in
theorem ii_ho_greaterPart_20 : sm_D prog_1_method_60_code 20 1 21 (.iconst 1) := ⟨by decide +kernel, rfl⟩
set_option maxRecDepth 100000 in
theorem ii_ho_greaterPart_21 : sm_D prog_1_method_60_code 21 1 22 (.iand) := ⟨by decide +kernel, rfl⟩
set_option maxRecDepth 100000 in
theorem ii_ho_greaterPart_22 : sm_D prog_1_method_60_code 22 3 25 (.ifCond .ne 6) := ⟨by decide +kernel, rfl⟩
set_option maxRecDepth 100000 in
theorem ii_ho_greaterPart_25 : sm_D prog_1_method_60_code 25 3 28 (.goto 28) := ⟨by decide +kernel, rfl⟩
set_option maxRecDepth 100000 in
theorem ii_ho_greaterPart_28 : sm_D prog_1_method_60_code 28 1 29 (.aload_n 0) := ⟨by decide +kernel, rfl⟩
set_option maxRecDepth 100000 in
theorem ii_ho_greaterPart_29 : sm_D prog_1_method_60_code 29 3 32 (.getfield 31) := ⟨by decide +kernel, rfl⟩
set_option maxRecDepth 100000 in
theorem ii_ho_greaterPart_32 : sm_D prog_1_method_60_code 32 1 33 (.iload_n 1) := ⟨by decide +kernel, rfl⟩
set_option maxRecDepth 100000 in
theorem ii_ho_greaterPart_33 : sm_D prog_1_method_60_code 33 2 35 (.iload 7) := ⟨by decide +kernel, rfl⟩
set_option maxRecDepth 100000 in
theorem ii_ho_greaterPart_35 : sm_D prog_1_method_60_code 35 1 36 (.iload_n 3) := ⟨by decide +kernel, rfl⟩
set_option maxRecDepth 100000 in
theorem ii_ho_greaterPart_36 : sm_D prog_1_method_60_code 36 2 38 (.iload 4) := ⟨by decide +kernel, rfl⟩
set_option maxRecDepth 100000 in
theorem ii_ho_greaterPart_38 : sm_D prog_1_method_60_code 38 3 41 (.invokevirtual 352) := ⟨by decide +kernel, rfl⟩
set_option maxRecDepth 100000 in
theorem ii_ho_greaterPart_41 : sm_D prog_1_method_60_code 41 3 44 (.ifCond .eq 9) := ⟨by decide +kernel, rfl⟩
set_option maxRecDepth 100000 in
theorem ii_ho_greaterPart_44 : sm_D prog_1_method_60_code 44 3 47 (.iinc 5 1) := ⟨by decide +kernel, rfl⟩
set_option maxRecDepth 100000 in
theorem ii_ho_greaterPart_47 : sm_D prog_1_method_60_code 47 3 50 (.goto 6) := ⟨by decide +kernel, rfl⟩
set_option maxRecDepth 100000 in
theorem ii_ho_greaterPart_50 : sm_D prog_1_method_60_code 50 3 53 (.iinc 6 1) := ⟨by decide +kernel, rfl⟩
set_option maxRecDepth 100000 in
theorem ii_ho_greaterPart_53 : sm_D prog_1_method_60_code 53 3 56 (.iinc 7 1) := ⟨by decide +kernel, rfl⟩
set_option maxRecDepth 100000 in
theorem ii_ho_greaterPart_56 : sm_D prog_1_method_60_code 56 3 59 (.goto (-47)) := ⟨by decide +kernel, rfl⟩
set_option maxRecDepth 100000 in
theorem ii_ho_greaterPart_59 : sm_D prog_1_method_60_code 59 2 61 (.iload 5) := ⟨by decide +kernel, rfl⟩
set_option maxRecDepth 100000 in
theorem ii_ho_greaterPart_61 : sm_D prog_1_method_60_code 61 2 63 (.iload 6) := ⟨by decide +kernel, rfl⟩
set_option maxRecDepth 100000 in
theorem ii_ho_greaterPart_63 : sm_D prog_1_method_60_code 63 3 66 (.invokestatic 356) := ⟨by decide +kernel, rfl⟩
set_option maxRecDepth 100000 in
theorem ii_ho_greaterPart_66 : sm_D prog_1_method_60_code 66 1 67 (.ireturn) := ⟨by decide +kernel, rfl⟩
noncomputable def ff_ho_greaterPart_9_b  (self9 : Int32 → Int32 → Int32 → Int32 → Int32 → Int32 → Int32 → sm_Mem → sm_R) (a1 : Int32) (a2 : Int32) (a3 : Int32) (a4 : Int32) (a5 : Int32) (a6 : Int32) (a7 : Int32) (w : sm_Mem) : sm_R := (if (6 : Int32) ≤ a7 then (some (.int (if a5 < a6 then a6 else a5), w)) else (if ((a2 >>> (a7 &&& (31 : Int32))) &&& (1 : Int32)) = (0 : Int32) then self9 (a1) (a2) (a3) (a4) (a5) (a6) ((a7 + (1 : Int32))) w else (sm_cI (ff_hs_isAble (a1) (a7) (a3) (a4) w) fun x1 w2 => (if x1 = (0 : Int32) then self9 (a1) (a2) (a3) (a4) (a5) ((a6 + (1 : Int32))) ((a7 + (1 : Int32))) w2 else self9 (a1) (a2) (a3) (a4) ((a5 + (1 : Int32))) (a6) ((a7 + (1 : Int32))) w2))))
noncomputable def ff_ho_greaterPart_9_f  : Nat → Int32 → Int32 → Int32 → Int32 → Int32 → Int32 → Int32 → sm_Mem → sm_R
  | 0, _, _, _, _, _, _, _, _ => none
  | n + 1, a1, a2, a3, a4, a5, a6, a7, w => ff_ho_greaterPart_9_b  (ff_ho_greaterPart_9_f  n) a1 a2 a3 a4 a5 a6 a7 w
noncomputable def ff_ho_greaterPart_9  (a1 : Int32) (a2 : Int32) (a3 : Int32) (a4 : Int32) (a5 : Int32) (a6 : Int32) (a7 : Int32) (w : sm_Mem) : sm_R := ff_ho_greaterPart_9_f  sm_N a1 a2 a3 a4 a5 a6 a7 w
set_option maxHeartbeats 4000000 in
set_option maxRecDepth 100000 in
theorem ss_ho_greaterPart_9_b {E : Nat × (Nat → Int32)}  (self9 : Int32 → Int32 → Int32 → Int32 → Int32 → Int32 → Int32 → sm_Mem → sm_R) (hself9 : ∀ (a1 : Int32) (a2 : Int32) (a3 : Int32) (a4 : Int32) (a5 : Int32) (a6 : Int32) (a7 : Int32) (w : sm_Mem), sm_Sim E (mi_ho_greaterPart) 9 [some (.ref 0), some (.int a1), some (.int a2), some (.int a3), some (.int a4), some (.int a5), some (.int a6), some (.int a7)] [] w (self9 a1 a2 a3 a4 a5 a6 a7 w)) (a1 : Int32) (a2 : Int32) (a3 : Int32) (a4 : Int32) (a5 : Int32) (a6 : Int32) (a7 : Int32) (w : sm_Mem) : sm_Sim E (mi_ho_greaterPart) 9 [some (.ref 0), some (.int a1), some (.int a2), some (.int a3), some (.int a4), some (.int a5), some (.int a6), some (.int a7)] [] w (ff_ho_greaterPart_9_b  self9 a1 a2 a3 a4 a5 a6 a7 w) := by
  unfold ff_ho_greaterPart_9_b
  refine sm_iload ii_ho_greaterPart_9 rfl ?_
  refine sm_bipush (6 : Int32) ii_ho_greaterPart_11 (by decide) ?_
  refine sm_icmp_ge 59 ii_ho_greaterPart_13 (by decide) ?_ ?_
  · refine sm_iload ii_ho_greaterPart_59 rfl ?_
    refine sm_iload ii_ho_greaterPart_61 rfl ?_
    refine sm_mmax ii_ho_greaterPart_63 mq_ho_356 mq_st_max mq_in mq_co_max (by decide) rfl ?_
    exact sm_iret ii_ho_greaterPart_66 rfl
  · refine sm_iload_n ii_ho_greaterPart_16 rfl ?_
    refine sm_iload ii_ho_greaterPart_17 rfl ?_
    refine sm_ishr ii_ho_greaterPart_19 ?_
    refine sm_iconst (1 : Int32) ii_ho_greaterPart_20 (by decide) ?_
    refine sm_iand ii_ho_greaterPart_21 ?_
    refine sm_if_ne 28 ii_ho_greaterPart_22 (by decide) ?_ ?_
    · refine sm_goto 53 ii_ho_greaterPart_25 (by decide) ?_
      refine sm_iinc (a7 + (1 : Int32)) [some (.ref 0), some (.int a1), some (.int a2), some (.int a3), some (.int a4), some (.int a5), some (.int a6), some (.int (a7 + (1 : Int32)))] ii_ho_greaterPart_53 rfl rfl rfl rfl ?_
      refine sm_goto 9 ii_ho_greaterPart_56 (by decide) ?_
      exact hself9 (a1) (a2) (a3) (a4) (a5) (a6) ((a7 + (1 : Int32))) w
    · refine sm_aload_n ii_ho_greaterPart_28 rfl ?_
      refine sm_getR 36 ii_ho_greaterPart_29 fl_ho_31 (k := 0) rfl ?_
      refine sm_iload_n ii_ho_greaterPart_32 rfl ?_
      refine sm_iload ii_ho_greaterPart_33 rfl ?_
      refine sm_iload_n ii_ho_greaterPart_35 rfl ?_
      refine sm_iload ii_ho_greaterPart_36 rfl ?_
      refine sm_cvI [.int a1, .int a7, .int a3, .int a4] [] rfl ii_ho_greaterPart_38 ml_ho_352 (mf_hs_isAble) (mv_hs_isAble) (Nat.le_of_ble_eq_true rfl) rfl 1 rfl rfl rfl rfl (mc_hs_isAble (a1) (a7) (a3) (a4) w) (fun x1 w2 => ?_)
      refine sm_if_eq 50 ii_ho_greaterPart_41 (by decide) ?_ ?_
      · refine sm_iinc (a6 + (1 : Int32)) [some (.ref 0), some (.int a1), some (.int a2), some (.int a3), some (.int a4), some (.int a5), some (.int (a6 + (1 : Int32))), some (.int a7)] ii_ho_greaterPart_50 rfl rfl rfl rfl ?_
        refine sm_iinc (a7 + (1 : Int32)) [some (.ref 0), some (.int a1), some (.int a2), some (.int a3), some (.int a4), some (.int a5), some (.int (a6 + (1 : Int32))), some (.int (a7 + (1 : Int32)))] ii_ho_greaterPart_53 rfl rfl rfl rfl ?_
        refine sm_goto 9 ii_ho_greaterPart_56 (by decide) ?_
        exact hself9 (a1) (a2) (a3) (a4) (a5) ((a6 + (1 : Int32))) ((a7 + (1 : Int32))) w2
      · refine sm_iinc (a5 + (1 : Int32)) [some (.ref 0), some (.int a1), some (.int a2), some (.int a3), some (.int a4), some (.int (a5 + (1 : Int32))), some (.int a6), some (.int a7)] ii_ho_greaterPart_44 rfl rfl rfl rfl ?_
        refine sm_goto 53 ii_ho_greaterPart_47 (by decide) ?_
        refine sm_iinc (a7 + (1 : Int32)) [some (.ref 0), some (.int a1), some (.int a2), some (.int a3), some (.int a4), some (.int (a5 + (1 : Int32))), some (.int a6), some (.int (a7 + (1 : Int32)))] ii_ho_greaterPart_53 rfl rfl rfl rfl ?_
        refine sm_goto 9 ii_ho_greaterPart_56 (by decide) ?_
        exact hself9 (a1) (a2) (a3) (a4) ((a5 + (1 : Int32))) (a6) ((a7 + (1 : Int32))) w2
set_option maxHeartbeats 4000000 in
set_option maxRecDepth 100000 in
theorem ss_ho_greaterPart_9_f {E : Nat × (Nat → Int32)}  : ∀ (n : Nat) (a1 : Int32) (a2 : Int32) (a3 : Int32) (a4 : Int32) (a5 : Int32) (a6 : Int32) (a7 : Int32) (w : sm_Mem), sm_Sim E (mi_ho_greaterPart) 9 [some (.ref 0), some (.int a1), some (.int a2), some (.int a3), some (.int a4), some (.int a5), some (.int a6), some (.int a7)] [] w (ff_ho_greaterPart_9_f  n a1 a2 a3 a4 a5 a6 a7 w)
  | 0, _, _, _, _, _, _, _, _ => fun _ _ h => by cases h
  | n + 1, a1, a2, a3, a4, a5, a6, a7, w => ss_ho_greaterPart_9_b  _ (ss_ho_greaterPart_9_f  n) a1 a2 a3 a4 a5 a6 a7 w
set_option maxHeartbeats 4000000 in
set_option maxRecDepth 100000 in
theorem ss_ho_greaterPart_9 {E : Nat × (Nat → Int32)}  (a1 : Int32) (a2 : Int32) (a3 : Int32) (a4 : Int32) (a5 : Int32) (a6 : Int32) (a7 : Int32) (w : sm_Mem) : sm_Sim E (mi_ho_greaterPart) 9 [some (.ref 0), some (.int a1), some (.int a2), some (.int a3), some (.int a4), some (.int a5), some (.int a6), some (.int a7)] [] w (ff_ho_greaterPart_9  a1 a2 a3 a4 a5 a6 a7 w) := ss_ho_greaterPart_9_f  sm_N a1 a2 a3 a4 a5 a6 a7 w
noncomputable def ff_ho_greaterPart  (a1 : Int32) (a2 : Int32) (a3 : Int32) (a4 : Int32) (w : sm_Mem) : sm_R := ff_ho_greaterPart_9 (a1) (a2) (a3) (a4) ((0 : Int32)) ((0 : Int32)) ((0 : Int32)) w
set_option maxHeartbeats 4000000 in
set_option maxRecDepth 100000 in
theorem ss_ho_greaterPart_0 {E : Nat × (Nat → Int32)}  (a1 : Int32) (a2 : Int32) (a3 : Int32) (a4 : Int32) (w : sm_Mem) : sm_Sim E (mi_ho_greaterPart) 0 [some (.ref 0), some (.int a1), some (.int a2), some (.int a3), some (.int a4), none, none, none] [] w (ff_ho_greaterPart  a1 a2 a3 a4 w) := by
  unfold ff_ho_greaterPart
  refine sm_iconst (0 : Int32) ii_ho_greaterPart_0 (by decide) ?_
  refine sm_istore [some (.ref 0), some (.int a1), some (.int a2), some (.int a3), some (.int a4), some (.int (0 : Int32)), none, none] ii_ho_greaterPart_1 rfl rfl ?_
  refine sm_iconst (0 : Int32) ii_ho_greaterPart_3 (by decide) ?_
  refine sm_istore [some (.ref 0), some (.int a1), some (.int a2), some (.int a3), some (.int a4), some (.int (0 : Int32)), some (.int (0 : Int32)), none] ii_ho_greaterPart_4 rfl rfl ?_
  refine sm_iconst (0 : Int32) ii_ho_greaterPart_6 (by decide) ?_
  refine sm_istore [some (.ref 0), some (.int a1), some (.int a2), some (.int a3), some (.int a4), some (.int (0 : Int32)), some (.int (0 : Int32)), some (.int (0 : Int32))] ii_ho_greaterPart_7 rfl rfl ?_
  exact ss_ho_greaterPart_9 (a1) (a2) (a3) (a4) ((0 : Int32)) ((0 : Int32)) ((0 : Int32)) w
set_option maxHeartbeats 4000000 in
set_option maxRecDepth 100000 in
theorem mc_ho_greaterPart {E : Nat × (Nat → Int32)} (a1 : Int32) (a2 : Int32) (a3 : Int32) (a4 : Int32) (w : sm_Mem) : sm_MC E mi_ho_greaterPart [.ref 0, .int a1, .int a2, .int a3, .int a4] w (ff_ho_greaterPart a1 a2 a3 a4 w) := sm_MC_of E (by decide +kernel) rfl (Nat.le_of_ble_eq_true rfl) (ss_ho_greaterPart_0 a1 a2 a3 a4 w)
abbrev mi_ho_test : sm_MI := (⟨"HerOrders", "test", "(II)I"⟩, prog_1_method_32_code, 10, (some .int), 4)
set_option maxRecDepth 100000 in
theorem mf_ho_test : sm_MF mi_ho_test 2 := ⟨List.mem_of_getElem? (i := 656) (by decide +kernel), List.mem_of_getElem? (i := 69) (by decide +kernel), ⟨by decide, by decide⟩, by decide +kernel⟩
set_option maxRecDepth 100000 in
theorem mv_ho_test : sm_MFV mi_ho_test := ⟨List.mem_of_getElem? (i := 654) (by decide +kernel), List.mem_of_getElem? (i := 655) (by decide +kernel)⟩
set_option maxRecDepth 100000 in
theorem ii_ho_test_0 : sm_D prog_1_method_32_code 0 1 1 (.aload_n 0) := ⟨by decide +kernel, rfl⟩
set_option maxRecDepth 100000 in
theorem ii_ho_test_1 : sm_D prog_1_method_32_code 1 1 2 (.iload_n 1) := ⟨by decide +kernel, rfl⟩
set_option maxRecDepth 100000 in
theorem ii_ho_test_2 : sm_D prog_1_method_32_code 2 1 3 (.iload_n 2) := ⟨by decide +kernel, rfl⟩
set_option maxRecDepth 100000 in
theorem ii_ho_test_3 : sm_D prog_1_method_32_code 3 3 6 (.invokevirtual 255) := ⟨by decide +kernel, rfl⟩
set_option maxRecDepth 100000 in
theorem ii_ho_test_6 : sm_D prog_1_method_32_code 6 1 7 (.istore_n 3) := ⟨by decide +kernel, rfl⟩
set_option maxRecDepth 100000 in
theorem ii_ho_test_7 : sm_D prog_1_method_32_code 7 1 8 (.iload_n 3) := ⟨by decide +kernel, rfl⟩
set_option maxRecDepth 100000 in
theorem ii_ho_test_8 : sm_D prog_1_method_32_code 8 3 11 (.ifCond .eq 5) := ⟨by decide +kernel, rfl⟩
set_option maxRecDepth 100000 in
theorem ii_ho_test_11 : sm_D prog_1_method_32_code 11 1 12 (.iload_n 3) := ⟨by decide +kernel, rfl⟩
set_option maxRecDepth 100000 in
theorem ii_ho_test_12 : sm_D prog_1_method_32_code 12 1 13 (.ireturn) := ⟨by decide +kernel, rfl⟩
set_option maxRecDepth 100000 in
theorem ii_ho_test_13 : sm_D prog_1_method_32_code 13 1 14 (.aload_n 0) := ⟨by decide +kernel, rfl⟩
set_option maxRecDepth 100000 in
theorem ii_ho_test_14 : sm_D prog_1_method_32_code 14 1 15 (.iload_n 1) := ⟨by decide +kernel, rfl⟩
set_option maxRecDepth 100000 in
theorem ii_ho_test_15 : sm_D prog_1_method_32_code 15 1 16 (.aload_n 0) := ⟨by decide +kernel, rfl⟩
set_option maxRecDepth 100000 in
theorem ii_ho_test_16 : sm_D prog_1_method_32_code 16 3 19 (.getfield 11) := ⟨by decide +kernel, rfl⟩
set_option maxRecDepth 100000 in
theorem ii_ho_test_19 : sm_D prog_1_method_32_code 19 1 20 (.iload_n 2) := ⟨by decide +kernel, rfl⟩
set_option maxRecDepth 100000 in
theorem ii_ho_test_20 : sm_D prog_1_method_32_code 20 1 21 (.aaload) := ⟨by decide +kernel, rfl⟩
set_option maxRecDepth 100000 in
theorem ii_ho_test_21 : sm_D prog_1_method_32_code 21 3 24 (.invokevirtual 258) := ⟨by decide +kernel, rfl⟩
set_option maxRecDepth 100000 in
theorem ii_ho_test_24 : sm_D prog_1_method_32_code 24 2 26 (.istore 4) := ⟨by decide +kernel, rfl⟩
set_option maxRecDepth 100000 in
theorem ii_ho_test_26 : sm_D prog_1_method_32_code 26 2 28 (.iload 4) := ⟨by decide +kernel, rfl⟩
set_option maxRecDepth 100000 in
theorem ii_ho_test_28 : sm_D prog_1_method_32_code 28 3 31 (.ifCond .ne 6) := ⟨by decide +kernel, rfl⟩
set_option maxRecDepth 100000 in
theorem ii_ho_test_31 : sm_D prog_1_method_32_code 31 2 33 (.bipush (-9)) := ⟨by decide +kernel, rfl⟩
set_option maxRecDepth 100000 in
theorem ii_ho_test_33 : sm_D prog_1_method_32_code 33 1 34 (.ireturn) := ⟨by decide +kernel, rfl⟩
set_option maxRecDepth 100000 in
theorem ii_ho_test_34 : sm_D prog_1_method_32_code 34 1 35 (.iconst 0) := ⟨by decide +kernel, rfl⟩
set_option maxRecDepth 100000 in
theorem ii_ho_test_35 : sm_D prog_1_method_32_code 35 2 37 (.istore 5) := ⟨by decide +kernel, rfl⟩
set_option maxRecDepth 100000 in
theorem ii_ho_test_37 : sm_D prog_1_method_32_code 37 2 39 (.bipush 7) := ⟨by decide +kernel, rfl⟩
set_option maxRecDepth 100000 in
theorem ii_ho_test_39 : sm_D prog_1_method_32_code 39 2 41 (.istore 6) := ⟨by decide +kernel, rfl⟩
set_option maxRecDepth 100000 in
theorem ii_ho_test_41 : sm_D prog_1_method_32_code 41 1 42 (.iconst 0) := ⟨by decide +kernel, rfl⟩
set_option maxRecDepth 100000 in
theorem ii_ho_test_42 : sm_D prog_1_method_32_code 42 2 44 (.istore 7) := ⟨by decide +kernel, rfl⟩
set_option maxRecDepth 100000 in
theorem ii_ho_test_44 : sm_D prog_1_method_32_code 44 2 46 (.iload 7) := ⟨by decide +kernel, rfl⟩
set_option maxRecDepth 100000 in
theorem ii_ho_test_46 : sm_D prog_1_method_32_code 46 2 48 (.bipush 6) := ⟨by decide +kernel, rfl⟩
set_option maxRecDepth 100000 in
theorem ii_ho_test_48 : sm_D prog_1_method_32_code 48 3 51 (.if_icmp .gt 71) := ⟨by decide +kernel, rfl⟩
set_option maxRecDepth 100000 in
theorem ii_ho_test_51 : sm_D prog_1_method_32_code 51 1 52 (.iconst 0) := ⟨by decide +kernel, rfl⟩
set_option maxRecDepth 100000 in
theorem ii_ho_test_52 : sm_D prog_1_method_32_code 52 2 54 (.istore 8) := ⟨by decide +kernel, rfl⟩
set_option maxRecDepth 100000 in
theorem ii_ho_test_54 : sm_D prog_1_method_32_code 54 2 56 (.iload 8) := ⟨by decide +kernel, rfl⟩
set_option maxRecDepth 100000 in
theorem ii_ho_test_56 : sm_D prog_1_method_32_code 56 2 58 (.bipush 6) := ⟨by decide +kernel, rfl⟩
set_option maxRecDepth 100000 in
theorem ii_ho_test_58 : sm_D prog_1_method_32_code 58 3 61 (.if_icmp .ge 55) := ⟨by decide +kernel, rfl⟩
set_option maxRecDepth 100000 in
theorem ii_ho_test_61 : sm_D prog_1_method_32_code 61 1 62 (.aload_n 0) := ⟨by decide +kernel, rfl⟩
set_option maxRecDepth 100000 in
theorem ii_ho_test_62 : sm_D prog_1_method_32_code 62 1 63 (.iload_n 1) := ⟨by decide +kernel, rfl⟩
set_option maxRecDepth 100000 in
theorem ii_ho_test_63 : sm_D prog_1_method_32_code 63 2 65 (.iload 4) := ⟨by decide +kernel, rfl⟩
set_option maxRecDepth 100000 in
theorem ii_ho_test_65 : sm_D prog_1_method_32_code 65 2 67 (.iload 7) := ⟨by decide +kernel, rfl⟩
set_option maxRecDepth 100000 in
theorem ii_ho_test_67 : sm_D prog_1_method_32_code 67 3 70 (.ifCond .ne 8) := ⟨by decide +kernel, rfl⟩
set_option maxRecDepth 100000 in
theorem ii_ho_test_70 : sm_D prog_1_method_32_code 70 2 72 (.bipush (-9)) := ⟨by decide +kernel, rfl⟩
set_option maxRecDepth 100000 in
theorem ii_ho_test_72 : sm_D prog_1_method_32_code 72 3 75 (.goto 7) := ⟨by decide +kernel, rfl⟩
set_option maxRecDepth 100000 in
theorem ii_ho_test_75 : sm_D prog_1_method_32_code 75 2 77 (.iload 7) := ⟨by decide +kernel, rfl⟩
set_option maxRecDepth 100000 in
theorem ii_ho_test_77 : sm_D prog_1_method_32_code 77 1 78 (.iconst 1) := ⟨by decide +kernel, rfl⟩
set_option maxRecDepth 100000 in
theorem ii_ho_test_78 : sm_D prog_1_method_32_code 78 1 79 (.isub) := ⟨by decide +kernel, rfl⟩
set_option maxRecDepth 100000 in
theorem ii_ho_test_79 : sm_D prog_1_method_32_code 79 2 81 (.iload 8) := ⟨by decide +kernel, rfl⟩
set_option maxRecDepth 100000 in
theorem ii_ho_test_81 : sm_D prog_1_method_32_code 81 3 84 (.invokevirtual 262) := ⟨by decide +kernel, rfl⟩
set_option maxRecDepth 100000 in
theorem ii_ho_test_84 : sm_D prog_1_method_32_code 84 2 86 (.istore 9) := ⟨by decide +kernel, rfl⟩
set_option maxRecDepth 100000 in
theorem ii_ho_test_86 : sm_D prog_1_method_32_code 86 2 88 (.iload 9) := ⟨by decide +kernel, rfl⟩
set_option maxRecDepth 100000 in
theorem ii_ho_test_88 : sm_D prog_1_method_32_code 88 2 90 (.iload 6) := ⟨by decide +kernel, rfl⟩
set_option maxRecDepth 100000 in
theorem ii_ho_test_90 : sm_D prog_1_method_32_code 90 3 93 (.if_icmp .ge 17) := ⟨by decide +kernel, rfl⟩
set_option maxRecDepth 100000 in
theorem ii_ho_test_93 : sm_D prog_1_method_32_code 93 2 95 (.iload 9) := ⟨by decide +kernel, rfl⟩
set_option maxRecDepth 100000 in
theorem ii_ho_test_95 : sm_D prog_1_method_32_code 95 2 97 (.istore 6) := ⟨by decide +kernel, rfl⟩
set_option maxRecDepth 100000 in
theorem ii_ho_test_97 : sm_D prog_1_method_32_code 97 2 99 (.bipush 10) := ⟨by decide +kernel, rfl⟩
set_option maxRecDepth 100000 in
theorem ii_ho_test_99 : sm_D prog_1_method_32_code 99 2 101 (.iload 7) := ⟨by decide +kernel, rfl⟩
set_option maxRecDepth 100000 in
theorem ii_ho_test_101 : sm_D prog_1_method_32_code 101 1 102 (.imul) := ⟨by decide +kernel, rfl⟩
set_option maxRecDepth 100000 in
theorem ii_ho_test_102 : sm_D prog_1_method_32_code 102 2 104 (.iload 8) := ⟨by decide +kernel, rfl⟩
set_option maxRecDepth 100000 in
theorem ii_ho_test_104 : sm_D prog_1_method_32_code 104 1 105 (.iadd) := ⟨by decide +kernel, rfl⟩
set_option maxRecDepth 100000 in
theorem ii_ho_test_105 : sm_D prog_1_method_32_code 105 2 107 (.istore 5) := ⟨by decide +kernel, rfl⟩
set_option maxRecDepth 100000 in
theorem ii_ho_test_107 : sm_D prog_1_method_32_code 107 3 110 (.iinc 8 1) := ⟨by decide +kernel, rfl⟩
set_option maxRecDepth 100000 in
theorem ii_ho_test_110 : sm_D prog_1_method_32_code 110 3 113 (.goto (-56)) := ⟨by decide +kernel, rfl⟩
set_option maxRecDepth 100000 in
theorem ii_ho_test_113 : sm_D prog_1_method_32_code 113 3 116 (.iinc 7 1) := ⟨by decide +kernel, rfl⟩
set_option maxRecDepth 100000 in
theorem ii_ho_test_116 : sm_D prog_1_method_32_code 116 3 119 (.goto (-72)) := ⟨by decide +kernel, rfl⟩
set_option maxRecDepth 100000 in
theorem ii_ho_test_119 : sm_D prog_1_method_32_code 119 1 120 (.aload_n 0) := ⟨by decide +kernel, rfl⟩
set_option maxRecDepth 100000 in
theorem ii_ho_test_120 : sm_D prog_1_method_32_code 120 3 123 (.getfield 54) := ⟨by decide +kernel, rfl⟩
set_option maxRecDepth 100000 in
theorem ii_ho_test_123 : sm_D prog_1_method_32_code 123 2 125 (.iload 6) := ⟨by decide +kernel, rfl⟩
set_option maxRecDepth 100000 in
theorem ii_ho_test_125 : sm_D prog_1_method_32_code 125 3 128 (.putfield 70) := ⟨by decide +kernel, rfl⟩
set_option maxRecDepth 100000 in
theorem ii_ho_test_128 : sm_D prog_1_method_32_code 128 2 130 (.iload 5) := ⟨by decide +kernel, rfl⟩
set_option maxRecDepth 100000 in
theorem ii_ho_test_130 : sm_D prog_1_method_32_code 130 1 131 (.ireturn) := ⟨by decide +kernel, rfl⟩
noncomputable def ff_ho_test_79 (self44 : Int32 → Int32 → Int32 → Int32 → Int32 → sm_Mem → sm_R) (self54 : Int32 → Int32 → Int32 → Int32 → Int32 → Int32 → sm_Mem → sm_R) (a1 : Int32) (a4 : Int32) (a5 : Int32) (a6 : Int32) (a7 : Int32) (a8 : Int32) (b1 : Int32) (b2 : Int32) (b3 : Int32) (w : sm_Mem) : sm_R := (sm_cI (ff_ho_greaterPart (b1) (b2) (b3) (a8) w) fun x1 w2 => (if a6 ≤ x1 then self54 (a1) (a4) (a5) (a6) (a7) ((a8 + (1 : Int32))) w2 else self54 (a1) (a4) ((((10 : Int32) * a7) + a8)) (x1) (a7) ((a8 + (1 : Int32))) w2))
set_option maxHeartbeats 4000000 in
set_option maxRecDepth 100000 in
theorem ss_ho_test_79 {E : Nat × (Nat → Int32)} (self44 : Int32 → Int32 → Int32 → Int32 → Int32 → sm_Mem → sm_R) (hself44 : ∀ (a1 : Int32) (a4 : Int32) (a5 : Int32) (a6 : Int32) (a7 : Int32) (w : sm_Mem), sm_Sim E (mi_ho_test) 44 [some (.ref 0), some (.int a1), none, none, some (.int a4), some (.int a5), some (.int a6), some (.int a7), none, none] [] w (self44 a1 a4 a5 a6 a7 w)) (self54 : Int32 → Int32 → Int32 → Int32 → Int32 → Int32 → sm_Mem → sm_R) (hself54 : ∀ (a1 : Int32) (a4 : Int32) (a5 : Int32) (a6 : Int32) (a7 : Int32) (a8 : Int32) (w : sm_Mem), sm_Sim E (mi_ho_test) 54 [some (.ref 0), some (.int a1), none, none, some (.int a4), some (.int a5), some (.int a6), some (.int a7), some (.int a8), none] [] w (self54 a1 a4 a5 a6 a7 a8 w)) (a1 : Int32) (a4 : Int32) (a5 : Int32) (a6 : Int32) (a7 : Int32) (a8 : Int32) (b1 : Int32) (b2 : Int32) (b3 : Int32) (w : sm_Mem) : sm_Sim E (mi_ho_test) 79 [some (.ref 0), some (.int a1), none, none, some (.int a4), some (.int a5), some (.int a6), some (.int a7), some (.int a8), none] [.int b3, .int b2, .int b1, .ref 0] w (ff_ho_test_79 self44 self54 a1 a4 a5 a6 a7 a8 b1 b2 b3 w) := by
  unfold ff_ho_test_79
  refine sm_iload ii_ho_test_79 rfl ?_
  refine sm_cvI [.int b1, .int b2, .int b3, .int a8] [] rfl ii_ho_test_81 ml_ho_262 (mf_ho_greaterPart) (mv_ho_greaterPart) (Nat.le_of_ble_eq_true rfl) rfl 6 rfl rfl rfl rfl (mc_ho_greaterPart (b1) (b2) (b3) (a8) w) (fun x1 w2 => ?_)
  refine sm_istore [some (.ref 0), some (.int a1), none, none, some (.int a4), some (.int a5), some (.int a6), some (.int a7), some (.int a8), some (.int x1)] ii_ho_test_84 rfl rfl ?_
  refine sm_iload ii_ho_test_86 rfl ?_
  refine sm_iload ii_ho_test_88 rfl ?_
  refine sm_icmp_ge 107 ii_ho_test_90 (by decide) ?_ ?_
  · refine sm_iinc (a8 + (1 : Int32)) [some (.ref 0), some (.int a1), none, none, some (.int a4), some (.int a5), some (.int a6), some (.int a7), some (.int (a8 + (1 : Int32))), some (.int x1)] ii_ho_test_107 rfl rfl rfl rfl ?_
    refine sm_goto 54 ii_ho_test_110 (by decide) ?_
    refine sm_msk [true, true, false, false, true, true, true, true, true, false] [some (.ref 0), some (.int a1), none, none, some (.int a4), some (.int a5), some (.int a6), some (.int a7), some (.int (a8 + (1 : Int32))), none] rfl ?_
    exact hself54 (a1) (a4) (a5) (a6) (a7) ((a8 + (1 : Int32))) w2
  · refine sm_iload ii_ho_test_93 rfl ?_
    refine sm_istore [some (.ref 0), some (.int a1), none, none, some (.int a4), some (.int a5), some (.int x1), some (.int a7), some (.int a8), some (.int x1)] ii_ho_test_95 rfl rfl ?_
    refine sm_bipush (10 : Int32) ii_ho_test_97 (by decide) ?_
    refine sm_iload ii_ho_test_99 rfl ?_
    refine sm_imul ii_ho_test_101 ?_
    refine sm_iload ii_ho_test_102 rfl ?_
    refine sm_iadd ii_ho_test_104 ?_
    refine sm_istore [some (.ref 0), some (.int a1), none, none, some (.int a4), some (.int (((10 : Int32) * a7) + a8)), some (.int x1), some (.int a7), some (.int a8), some (.int x1)] ii_ho_test_105 rfl rfl ?_
    refine sm_iinc (a8 + (1 : Int32)) [some (.ref 0), some (.int a1), none, none, some (.int a4), some (.int (((10 : Int32) * a7) + a8)), some (.int x1), some (.int a7), some (.int (a8 + (1 : Int32))), some (.int x1)] ii_ho_test_107 rfl rfl rfl rfl ?_
    refine sm_goto 54 ii_ho_test_110 (by decide) ?_
    refine sm_msk [true, true, false, false, true, true, true, true, true, false] [some (.ref 0), some (.int a1), none, none, some (.int a4), some (.int (((10 : Int32) * a7) + a8)), some (.int x1), some (.int a7), some (.int (a8 + (1 : Int32))), none] rfl ?_
    exact hself54 (a1) (a4) ((((10 : Int32) * a7) + a8)) (x1) (a7) ((a8 + (1 : Int32))) w2
noncomputable def ff_ho_test_54_b (self44 : Int32 → Int32 → Int32 → Int32 → Int32 → sm_Mem → sm_R) (self54 : Int32 → Int32 → Int32 → Int32 → Int32 → Int32 → sm_Mem → sm_R) (a1 : Int32) (a4 : Int32) (a5 : Int32) (a6 : Int32) (a7 : Int32) (a8 : Int32) (w : sm_Mem) : sm_R := (if (6 : Int32) ≤ a8 then self44 (a1) (a4) (a5) (a6) ((a7 + (1 : Int32))) w else (if a7 = (0 : Int32) then ff_ho_test_79 self44 self54 (a1) (a4) (a5) (a6) (a7) (a8) (a1) (a4) ((-9 : Int32)) w else ff_ho_test_79 self44 self54 (a1) (a4) (a5) (a6) (a7) (a8) (a1) (a4) ((a7 - (1 : Int32))) w))
noncomputable def ff_ho_test_54_f (self44 : Int32 → Int32 → Int32 → Int32 → Int32 → sm_Mem → sm_R) : Nat → Int32 → Int32 → Int32 → Int32 → Int32 → Int32 → sm_Mem → sm_R
  | 0, _, _, _, _, _, _, _ => none
  | n + 1, a1, a4, a5, a6, a7, a8, w => ff_ho_test_54_b self44 (ff_ho_test_54_f self44 n) a1 a4 a5 a6 a7 a8 w
noncomputable def ff_ho_test_54 (self44 : Int32 → Int32 → Int32 → Int32 → Int32 → sm_Mem → sm_R) (a1 : Int32) (a4 : Int32) (a5 : Int32) (a6 : Int32) (a7 : Int32) (a8 : Int32) (w : sm_Mem) : sm_R := ff_ho_test_54_f self44 sm_N a1 a4 a5 a6 a7 a8 w
set_option maxHeartbeats 4000000 in
set_option maxRecDepth 100000 in
theorem ss_ho_test_54_b {E : Nat × (Nat → Int32)} (self44 : Int32 → Int32 → Int32 → Int32 → Int32 → sm_Mem → sm_R) (hself44 : ∀ (a1 : Int32) (a4 : Int32) (a5 : Int32) (a6 : Int32) (a7 : Int32) (w : sm_Mem), sm_Sim E (mi_ho_test) 44 [some (.ref 0), some (.int a1), none, none, some (.int a4), some (.int a5), some (.int a6), some (.int a7), none, none] [] w (self44 a1 a4 a5 a6 a7 w)) (self54 : Int32 → Int32 → Int32 → Int32 → Int32 → Int32 → sm_Mem → sm_R) (hself54 : ∀ (a1 : Int32) (a4 : Int32) (a5 : Int32) (a6 : Int32) (a7 : Int32) (a8 : Int32) (w : sm_Mem), sm_Sim E (mi_ho_test) 54 [some (.ref 0), some (.int a1), none, none, some (.int a4), some (.int a5), some (.int a6), some (.int a7), some (.int a8), none] [] w (self54 a1 a4 a5 a6 a7 a8 w)) (a1 : Int32) (a4 : Int32) (a5 : Int32) (a6 : Int32) (a7 : Int32) (a8 : Int32) (w : sm_Mem) : sm_Sim E (mi_ho_test) 54 [some (.ref 0), some (.int a1), none, none, some (.int a4), some (.int a5), some (.int a6), some (.int a7), some (.int a8), none] [] w (ff_ho_test_54_b self44 self54 a1 a4 a5 a6 a7 a8 w) := by
  unfold ff_ho_test_54_b
  refine sm_iload ii_ho_test_54 rfl ?_
  refine sm_bipush (6 : Int32) ii_ho_test_56 (by decide) ?_
  refine sm_icmp_ge 113 ii_ho_test_58 (by decide) ?_ ?_
  · refine sm_iinc (a7 + (1 : Int32)) [some (.ref 0), some (.int a1), none, none, some (.int a4), some (.int a5), some (.int a6), some (.int (a7 + (1 : Int32))), some (.int a8), none] ii_ho_test_113 rfl rfl rfl rfl ?_
    refine sm_goto 44 ii_ho_test_116 (by decide) ?_
    refine sm_msk [true, true, false, false, true, true, true, true, false, false] [some (.ref 0), some (.int a1), none, none, some (.int a4), some (.int a5), some (.int a6), some (.int (a7 + (1 : Int32))), none, none] rfl ?_
    exact hself44 (a1) (a4) (a5) (a6) ((a7 + (1 : Int32))) w
  · refine sm_aload_n ii_ho_test_61 rfl ?_
    refine sm_iload_n ii_ho_test_62 rfl ?_
    refine sm_iload ii_ho_test_63 rfl ?_
    refine sm_iload ii_ho_test_65 rfl ?_
    refine sm_if_ne 75 ii_ho_test_67 (by decide) ?_ ?_
    · refine sm_bipush (-9 : Int32) ii_ho_test_70 (by decide) ?_
      refine sm_goto 79 ii_ho_test_72 (by decide) ?_
      exact ss_ho_test_79 self44 hself44 self54 hself54 (a1) (a4) (a5) (a6) (a7) (a8) (a1) (a4) ((-9 : Int32)) w
    · refine sm_iload ii_ho_test_75 rfl ?_
      refine sm_iconst (1 : Int32) ii_ho_test_77 (by decide) ?_
      refine sm_isub ii_ho_test_78 ?_
      exact ss_ho_test_79 self44 hself44 self54 hself54 (a1) (a4) (a5) (a6) (a7) (a8) (a1) (a4) ((a7 - (1 : Int32))) w
set_option maxHeartbeats 4000000 in
set_option maxRecDepth 100000 in
theorem ss_ho_test_54_f {E : Nat × (Nat → Int32)} (self44 : Int32 → Int32 → Int32 → Int32 → Int32 → sm_Mem → sm_R) (hself44 : ∀ (a1 : Int32) (a4 : Int32) (a5 : Int32) (a6 : Int32) (a7 : Int32) (w : sm_Mem), sm_Sim E (mi_ho_test) 44 [some (.ref 0), some (.int a1), none, none, some (.int a4), some (.int a5), some (.int a6), some (.int a7), none, none] [] w (self44 a1 a4 a5 a6 a7 w)) : ∀ (n : Nat) (a1 : Int32) (a4 : Int32) (a5 : Int32) (a6 : Int32) (a7 : Int32) (a8 : Int32) (w : sm_Mem), sm_Sim E (mi_ho_test) 54 [some (.ref 0), some (.int a1), none, none, some (.int a4), some (.int a5), some (.int a6), some (.int a7), some (.int a8), none] [] w (ff_ho_test_54_f self44 n a1 a4 a5 a6 a7 a8 w)
  | 0, _, _, _, _, _, _, _ => fun _ _ h => by cases h
  | n + 1, a1, a4, a5, a6, a7, a8, w => ss_ho_test_54_b self44 hself44 _ (ss_ho_test_54_f self44 hself44 n) a1 a4 a5 a6 a7 a8 w
set_option maxHeartbeats 4000000 in
set_option maxRecDepth 100000 in
theorem ss_ho_test_54 {E : Nat × (Nat → Int32)} (self44 : Int32 → Int32 → Int32 → Int32 → Int32 → sm_Mem → sm_R) (hself44 : ∀ (a1 : Int32) (a4 : Int32) (a5 : Int32) (a6 : Int32) (a7 : Int32) (w : sm_Mem), sm_Sim E (mi_ho_test) 44 [some (.ref 0), some (.int a1), none, none, some (.int a4), some (.int a5), some (.int a6), some (.int a7), none, none] [] w (self44 a1 a4 a5 a6 a7 w)) (a1 : Int32) (a4 : Int32) (a5 : Int32) (a6 : Int32) (a7 : Int32) (a8 : Int32) (w : sm_Mem) : sm_Sim E (mi_ho_test) 54 [some (.ref 0), some (.int a1), none, none, some (.int a4), some (.int a5), some (.int a6), some (.int a7), some (.int a8), none] [] w (ff_ho_test_54 self44 a1 a4 a5 a6 a7 a8 w) := ss_ho_test_54_f self44 hself44 sm_N a1 a4 a5 a6 a7 a8 w
noncomputable def ff_ho_test_44_b  (self44 : Int32 → Int32 → Int32 → Int32 → Int32 → sm_Mem → sm_R) (a1 : Int32) (a4 : Int32) (a5 : Int32) (a6 : Int32) (a7 : Int32) (w : sm_Mem) : sm_R := (if (6 : Int32) < a7 then (sm_let (sm_wI w 60 0 a6) fun w3 => (some (.int a5, w3))) else ff_ho_test_54 self44 (a1) (a4) (a5) (a6) (a7) ((0 : Int32)) w)
noncomputable def ff_ho_test_44_f  : Nat → Int32 → Int32 → Int32 → Int32 → Int32 → sm_Mem → sm_R
  | 0, _, _, _, _, _, _ => none
  | n + 1, a1, a4, a5, a6, a7, w => ff_ho_test_44_b  (ff_ho_test_44_f  n) a1 a4 a5 a6 a7 w
noncomputable def ff_ho_test_44  (a1 : Int32) (a4 : Int32) (a5 : Int32) (a6 : Int32) (a7 : Int32) (w : sm_Mem) : sm_R := ff_ho_test_44_f  sm_N a1 a4 a5 a6 a7 w
set_option maxHeartbeats 4000000 in
set_option maxRecDepth 100000 in
theorem ss_ho_test_44_b {E : Nat × (Nat → Int32)}  (self44 : Int32 → Int32 → Int32 → Int32 → Int32 → sm_Mem → sm_R) (hself44 : ∀ (a1 : Int32) (a4 : Int32) (a5 : Int32) (a6 : Int32) (a7 : Int32) (w : sm_Mem), sm_Sim E (mi_ho_test) 44 [some (.ref 0), some (.int a1), none, none, some (.int a4), some (.int a5), some (.int a6), some (.int a7), none, none] [] w (self44 a1 a4 a5 a6 a7 w)) (a1 : Int32) (a4 : Int32) (a5 : Int32) (a6 : Int32) (a7 : Int32) (w : sm_Mem) : sm_Sim E (mi_ho_test) 44 [some (.ref 0), some (.int a1), none, none, some (.int a4), some (.int a5), some (.int a6), some (.int a7), none, none] [] w (ff_ho_test_44_b  self44 a1 a4 a5 a6 a7 w) := by
  unfold ff_ho_test_44_b
  refine sm_iload ii_ho_test_44 rfl ?_
  refine sm_bipush (6 : Int32) ii_ho_test_46 (by decide) ?_
  refine sm_icmp_gt 119 ii_ho_test_48 (by decide) ?_ ?_
  · refine sm_aload_n ii_ho_test_119 rfl ?_
    refine sm_getR 60 ii_ho_test_120 fl_ho_54 (k := 0) rfl ?_
    refine sm_iload ii_ho_test_123 rfl ?_
    refine sm_putI ii_ho_test_125 fp_ho_70 (k := 60) rfl (fun w3 => ?_)
    refine sm_iload ii_ho_test_128 rfl ?_
    exact sm_iret ii_ho_test_130 rfl
  · refine sm_iconst (0 : Int32) ii_ho_test_51 (by decide) ?_
    refine sm_istore [some (.ref 0), some (.int a1), none, none, some (.int a4), some (.int a5), some (.int a6), some (.int a7), some (.int (0 : Int32)), none] ii_ho_test_52 rfl rfl ?_
    exact ss_ho_test_54 self44 hself44 (a1) (a4) (a5) (a6) (a7) ((0 : Int32)) w
set_option maxHeartbeats 4000000 in
set_option maxRecDepth 100000 in
theorem ss_ho_test_44_f {E : Nat × (Nat → Int32)}  : ∀ (n : Nat) (a1 : Int32) (a4 : Int32) (a5 : Int32) (a6 : Int32) (a7 : Int32) (w : sm_Mem), sm_Sim E (mi_ho_test) 44 [some (.ref 0), some (.int a1), none, none, some (.int a4), some (.int a5), some (.int a6), some (.int a7), none, none] [] w (ff_ho_test_44_f  n a1 a4 a5 a6 a7 w)
  | 0, _, _, _, _, _, _ => fun _ _ h => by cases h
  | n + 1, a1, a4, a5, a6, a7, w => ss_ho_test_44_b  _ (ss_ho_test_44_f  n) a1 a4 a5 a6 a7 w
set_option maxHeartbeats 4000000 in
set_option maxRecDepth 100000 in
theorem ss_ho_test_44 {E : Nat × (Nat → Int32)}  (a1 : Int32) (a4 : Int32) (a5 : Int32) (a6 : Int32) (a7 : Int32) (w : sm_Mem) : sm_Sim E (mi_ho_test) 44 [some (.ref 0), some (.int a1), none, none, some (.int a4), some (.int a5), some (.int a6), some (.int a7), none, none] [] w (ff_ho_test_44  a1 a4 a5 a6 a7 w) := ss_ho_test_44_f  sm_N a1 a4 a5 a6 a7 w
noncomputable def ff_ho_test  (a1 : Int32) (a2 : Int32) (w : sm_Mem) : sm_R := (sm_cI (ff_ho_refusalOfTriples (a1) (a2) w) fun x4 w5 => (if x4 = (0 : Int32) then (Option.bind (sm_rr 1 a2) fun r6 => (sm_cI (ff_ho_kindsBy (a1) (r6) w5) fun x7 w8 => (if x7 = (0 : Int32) then (some (.int (-9 : Int32), w8)) else ff_ho_test_44 (a1) (x7) ((0 : Int32)) ((7 : Int32)) ((0 : Int32)) w8))) else (some (.int x4, w5))))
set_option maxHeartbeats 4000000 in
set_option maxRecDepth 100000 in
theorem ss_ho_test_0 {E : Nat × (Nat → Int32)}  (a1 : Int32) (a2 : Int32) (w : sm_Mem) : sm_Sim E (mi_ho_test) 0 [some (.ref 0), some (.int a1), some (.int a2), none, none, none, none, none, none, none] [] w (ff_ho_test  a1 a2 w) := by
  unfold ff_ho_test
  refine sm_aload_n ii_ho_test_0 rfl ?_
  refine sm_iload_n ii_ho_test_1 rfl ?_
  refine sm_iload_n ii_ho_test_2 rfl ?_
  refine sm_cvI [.int a1, .int a2] [] rfl ii_ho_test_3 ml_ho_255 (mf_ho_refusalOfTriples) (mv_ho_refusalOfTriples) (Nat.le_of_ble_eq_true rfl) rfl 6 rfl rfl rfl rfl (mc_ho_refusalOfTriples (a1) (a2) w) (fun x4 w5 => ?_)
  refine sm_istore_n [some (.ref 0), some (.int a1), some (.int a2), some (.int x4), none, none, none, none, none, none] ii_ho_test_6 rfl rfl ?_
  refine sm_iload_n ii_ho_test_7 rfl ?_
  refine sm_if_eq 13 ii_ho_test_8 (by decide) ?_ ?_
  · refine sm_aload_n ii_ho_test_13 rfl ?_
    refine sm_iload_n ii_ho_test_14 rfl ?_
    refine sm_aload_n ii_ho_test_15 rfl ?_
    refine sm_getR 1 ii_ho_test_16 fl_ho_11 (k := 0) rfl ?_
    refine sm_iload_n ii_ho_test_19 rfl ?_
    refine sm_aald ii_ho_test_20 (fun r6 => ?_)
    refine sm_cvI [.int a1, .ref r6] [] rfl ii_ho_test_21 ml_ho_258 (mf_ho_kindsBy) (mv_ho_kindsBy) (Nat.le_of_ble_eq_true rfl) rfl 6 rfl rfl rfl rfl (mc_ho_kindsBy (a1) (r6) w5) (fun x7 w8 => ?_)
    refine sm_istore [some (.ref 0), some (.int a1), some (.int a2), some (.int x4), some (.int x7), none, none, none, none, none] ii_ho_test_24 rfl rfl ?_
    refine sm_iload ii_ho_test_26 rfl ?_
    refine sm_if_ne 34 ii_ho_test_28 (by decide) ?_ ?_
    · refine sm_bipush (-9 : Int32) ii_ho_test_31 (by decide) ?_
      exact sm_iret ii_ho_test_33 rfl
    · refine sm_iconst (0 : Int32) ii_ho_test_34 (by decide) ?_
      refine sm_istore [some (.ref 0), some (.int a1), some (.int a2), some (.int x4), some (.int x7), some (.int (0 : Int32)), none, none, none, none] ii_ho_test_35 rfl rfl ?_
      refine sm_bipush (7 : Int32) ii_ho_test_37 (by decide) ?_
      refine sm_istore [some (.ref 0), some (.int a1), some (.int a2), some (.int x4), some (.int x7), some (.int (0 : Int32)), some (.int (7 : Int32)), none, none, none] ii_ho_test_39 rfl rfl ?_
      refine sm_iconst (0 : Int32) ii_ho_test_41 (by decide) ?_
      refine sm_istore [some (.ref 0), some (.int a1), some (.int a2), some (.int x4), some (.int x7), some (.int (0 : Int32)), some (.int (7 : Int32)), some (.int (0 : Int32)), none, none] ii_ho_test_42 rfl rfl ?_
      refine sm_msk [true, true, false, false, true, true, true, true, false, false] [some (.ref 0), some (.int a1), none, none, some (.int x7), some (.int (0 : Int32)), some (.int (7 : Int32)), some (.int (0 : Int32)), none, none] rfl ?_
      exact ss_ho_test_44 (a1) (x7) ((0 : Int32)) ((7 : Int32)) ((0 : Int32)) w8
  · refine sm_iload_n ii_ho_test_11 rfl ?_
    exact sm_iret ii_ho_test_12 rfl
set_option maxHeartbeats 4000000 in
set_option maxRecDepth 100000 in
theorem mc_ho_test {E : Nat × (Nat → Int32)} (a1 : Int32) (a2 : Int32) (w : sm_Mem) : sm_MC E mi_ho_test [.ref 0, .int a1, .int a2] w (ff_ho_test a1 a2 w) := sm_MC_of E (by decide +kernel) rfl (Nat.le_of_ble_eq_true rfl) (ss_ho_test_0 a1 a2 w)
abbrev mi_hs_invite : sm_MI := (⟨"HerOrders$House", "invite", "(I)V"⟩, prog_3_method_11_code, 2, none, 1)
set_option maxRecDepth 100000 in
theorem mf_hs_invite : sm_MF mi_hs_invite 1 := ⟨List.mem_of_getElem? (i := 669) (by decide +kernel), List.mem_of_getElem? (i := 73) (by decide +kernel), ⟨by decide, by decide⟩, by decide +kernel⟩
set_option maxRecDepth 100000 in
theorem mv_hs_invite : sm_MFV mi_hs_invite := ⟨List.mem_of_getElem? (i := 668) (by decide +kernel), List.mem_of_getElem? (i := 49) (by decide +kernel)⟩
set_option maxRecDepth 100000 in
theorem ii_hs_invite_0 : sm_D prog_3_method_11_code 0 1 1 (.aload_n 0) := ⟨by decide +kernel, rfl⟩
set_option maxRecDepth 100000 in
theorem ii_hs_invite_1 : sm_D prog_3_method_11_code 1 3 4 (.getfield 45) := ⟨by decide +kernel, rfl⟩
set_option maxRecDepth 100000 in
theorem ii_hs_invite_4 : sm_D prog_3_method_11_code 4 2 6 (.bipush 6) := ⟨by decide +kernel, rfl⟩
set_option maxRecDepth 100000 in
theorem ii_hs_invite_6 : sm_D prog_3_method_11_code 6 3 9 (.if_icmp .lt 4) := ⟨by decide +kernel, rfl⟩
set_option maxRecDepth 100000 in
theorem ii_hs_invite_9 : sm_D prog_3_method_11_code 9 1 10 (.return_) := ⟨by decide +kernel, rfl⟩
set_option maxRecDepth 100000 in
theorem ii_hs_invite_10 : sm_D prog_3_method_11_code 10 1 11 (.aload_n 0) := ⟨by decide +kernel, rfl⟩
set_option maxRecDepth 100000 in
theorem ii_hs_invite_11 : sm_D prog_3_method_11_code 11 3 14 (.getfield 9) := ⟨by decide +kernel, rfl⟩
set_option maxRecDepth 100000 in
theorem ii_hs_invite_14 : sm_D prog_3_method_11_code 14 1 15 (.aload_n 0) := ⟨by decide +kernel, rfl⟩
set_option maxRecDepth 100000 in
theorem ii_hs_invite_15 : sm_D prog_3_method_11_code 15 3 18 (.getfield 45) := ⟨by decide +kernel, rfl⟩
set_option maxRecDepth 100000 in
theorem ii_hs_invite_18 : sm_D prog_3_method_11_code 18 1 19 (.iconst 0) := ⟨by decide +kernel, rfl⟩
set_option maxRecDepth 100000 in
theorem ii_hs_invite_19 : sm_D prog_3_method_11_code 19 1 20 (.iastore) := ⟨by decide +kernel, rfl⟩
set_option maxRecDepth 100000 in
theorem ii_hs_invite_20 : sm_D prog_3_method_11_code 20 1 21 (.aload_n 0) := ⟨by decide +kernel, rfl⟩
set_option maxRecDepth 100000 in
theorem ii_hs_invite_21 : sm_D prog_3_method_11_code 21 3 24 (.getfield 15) := ⟨by decide +kernel, rfl⟩
set_option maxRecDepth 100000 in
theorem ii_hs_invite_24 : sm_D prog_3_method_11_code 24 1 25 (.aload_n 0) := ⟨by decide +kernel, rfl⟩
set_option maxRecDepth 100000 in
theorem ii_hs_invite_25 : sm_D prog_3_method_11_code 25 3 28 (.getfield 45) := ⟨by decide +kernel, rfl⟩
set_option maxRecDepth 100000 in
theorem ii_hs_invite_28 : sm_D prog_3_method_11_code 28 2 30 (.bipush 63) := ⟨by decide +kernel, rfl⟩
set_option maxRecDepth 100000 in
theorem ii_hs_invite_30 : sm_D prog_3_method_11_code 30 1 31 (.iastore) := ⟨by decide +kernel, rfl⟩
set_option maxRecDepth 100000 in
theorem ii_hs_invite_31 : sm_D prog_3_method_11_code 31 1 32 (.aload_n 0) := ⟨by decide +kernel, rfl⟩
set_option maxRecDepth 100000 in
theorem ii_hs_invite_32 : sm_D prog_3_method_11_code 32 3 35 (.getfield 24) := ⟨by decide +kernel, rfl⟩
set_option maxRecDepth 100000 in
theorem ii_hs_invite_35 : sm_D prog_3_method_11_code 35 1 36 (.aload_n 0) := ⟨by decide +kernel, rfl⟩
set_option maxRecDepth 100000 in
theorem ii_hs_invite_36 : sm_D prog_3_method_11_code 36 3 39 (.getfield 45) := ⟨by decide +kernel, rfl⟩
set_option maxRecDepth 100000 in
theorem ii_hs_invite_39 : sm_D prog_3_method_11_code 39 1 40 (.iload_n 1) := ⟨by decide +kernel, rfl⟩
set_option maxRecDepth 100000 in
theorem ii_hs_invite_40 : sm_D prog_3_method_11_code 40 1 41 (.iastore) := ⟨by decide +kernel, rfl⟩
set_option maxRecDepth 100000 in
theorem ii_hs_invite_41 : sm_D prog_3_method_11_code 41 1 42 (.aload_n 0) := ⟨by decide +kernel, rfl⟩
set_option maxRecDepth 100000 in
theorem ii_hs_invite_42 : sm_D prog_3_method_11_code 42 3 45 (.getfield 27) := ⟨by decide +kernel, rfl⟩
set_option maxRecDepth 100000 in
theorem ii_hs_invite_45 : sm_D prog_3_method_11_code 45 1 46 (.aload_n 0) := ⟨by decide +kernel, rfl⟩
set_option maxRecDepth 100000 in
theorem ii_hs_invite_46 : sm_D prog_3_method_11_code 46 3 49 (.getfield 45) := ⟨by decide +kernel, rfl⟩
set_option maxRecDepth 100000 in
theorem ii_hs_invite_49 : sm_D prog_3_method_11_code 49 2 51 (.bipush 9) := ⟨by decide +kernel, rfl⟩
set_option maxRecDepth 100000 in
theorem ii_hs_invite_51 : sm_D prog_3_method_11_code 51 1 52 (.iastore) := ⟨by decide +kernel, rfl⟩
set_option maxRecDepth 100000 in
theorem ii_hs_invite_52 : sm_D prog_3_method_11_code 52 1 53 (.aload_n 0) := ⟨by decide +kernel, rfl⟩
set_option maxRecDepth 100000 in
theorem ii_hs_invite_53 : sm_D prog_3_method_11_code 53 1 54 (.dup) := ⟨by decide +kernel, rfl⟩
set_option maxRecDepth 100000 in
theorem ii_hs_invite_54 : sm_D prog_3_method_11_code 54 3 57 (.getfield 45) := ⟨by decide +kernel, rfl⟩
set_option maxRecDepth 100000 in
theorem ii_hs_invite_57 : sm_D prog_3_method_11_code 57 1 58 (.iconst 1) := ⟨by decide +kernel, rfl⟩
set_option maxRecDepth 100000 in
theorem ii_hs_invite_58 : sm_D prog_3_method_11_code 58 1 59 (.iadd) := ⟨by decide +kernel, rfl⟩
set_option maxRecDepth 100000 in
theorem ii_hs_invite_59 : sm_D prog_3_method_11_code 59 3 62 (.putfield 45) := ⟨by decide +kernel, rfl⟩
set_option maxRecDepth 100000 in
theorem ii_hs_invite_62 : sm_D prog_3_method_11_code 62 1 63 (.return_) := ⟨by decide +kernel, rfl⟩
noncomputable def ff_hs_invite  (a1 : Int32) (w : sm_Mem) : sm_R := (if (w.1 36 0) < (6 : Int32) then (Option.bind (sm_wr w 37 6 (w.1 36 0) (0 : Int32)) fun w1 => (Option.bind (sm_wr w1 38 6 (w1.1 36 0) (63 : Int32)) fun w2 => (Option.bind (sm_wr w2 41 6 (w2.1 36 0) a1) fun w3 => (Option.bind (sm_wr w3 42 6 (w3.1 36 0) (9 : Int32)) fun w4 => (sm_let (sm_wI w4 36 0 ((w4.1 36 0) + (1 : Int32))) fun w5 => (some (.null, w5))))))) else (some (.null, w)))
set_option maxHeartbeats 4000000 in
set_option maxRecDepth 100000 in
theorem ss_hs_invite_0 {E : Nat × (Nat → Int32)}  (a1 : Int32) (w : sm_Mem) : sm_Sim E (mi_hs_invite) 0 [some (.ref 36), some (.int a1)] [] w (ff_hs_invite  a1 w) := by
  unfold ff_hs_invite
  refine sm_aload_n ii_hs_invite_0 rfl ?_
  refine sm_getI ii_hs_invite_1 fl_hs_45 (k := 36) rfl ?_
  refine sm_bipush (6 : Int32) ii_hs_invite_4 (by decide) ?_
  refine sm_icmp_lt 10 ii_hs_invite_6 (by decide) ?_ ?_
  · refine sm_aload_n ii_hs_invite_10 rfl ?_
    refine sm_getR 37 ii_hs_invite_11 fl_hs_9 (k := 36) rfl ?_
    refine sm_aload_n ii_hs_invite_14 rfl ?_
    refine sm_getI ii_hs_invite_15 fl_hs_45 (k := 36) rfl ?_
    refine sm_iconst (0 : Int32) ii_hs_invite_18 (by decide) ?_
    refine sm_iast ii_hs_invite_19 (k := 37) rfl (fun w1 => ?_)
    refine sm_aload_n ii_hs_invite_20 rfl ?_
    refine sm_getR 38 ii_hs_invite_21 fl_hs_15 (k := 36) rfl ?_
    refine sm_aload_n ii_hs_invite_24 rfl ?_
    refine sm_getI ii_hs_invite_25 fl_hs_45 (k := 36) rfl ?_
    refine sm_bipush (63 : Int32) ii_hs_invite_28 (by decide) ?_
    refine sm_iast ii_hs_invite_30 (k := 38) rfl (fun w2 => ?_)
    refine sm_aload_n ii_hs_invite_31 rfl ?_
    refine sm_getR 41 ii_hs_invite_32 fl_hs_24 (k := 36) rfl ?_
    refine sm_aload_n ii_hs_invite_35 rfl ?_
    refine sm_getI ii_hs_invite_36 fl_hs_45 (k := 36) rfl ?_
    refine sm_iload_n ii_hs_invite_39 rfl ?_
    refine sm_iast ii_hs_invite_40 (k := 41) rfl (fun w3 => ?_)
    refine sm_aload_n ii_hs_invite_41 rfl ?_
    refine sm_getR 42 ii_hs_invite_42 fl_hs_27 (k := 36) rfl ?_
    refine sm_aload_n ii_hs_invite_45 rfl ?_
    refine sm_getI ii_hs_invite_46 fl_hs_45 (k := 36) rfl ?_
    refine sm_bipush (9 : Int32) ii_hs_invite_49 (by decide) ?_
    refine sm_iast ii_hs_invite_51 (k := 42) rfl (fun w4 => ?_)
    refine sm_aload_n ii_hs_invite_52 rfl ?_
    refine sm_dupR ii_hs_invite_53 ?_
    refine sm_getI ii_hs_invite_54 fl_hs_45 (k := 36) rfl ?_
    refine sm_iconst (1 : Int32) ii_hs_invite_57 (by decide) ?_
    refine sm_iadd ii_hs_invite_58 ?_
    refine sm_putI ii_hs_invite_59 fp_hs_45 (k := 36) rfl (fun w5 => ?_)
    exact sm_vret ii_hs_invite_62 rfl
  · exact sm_vret ii_hs_invite_9 rfl
set_option maxHeartbeats 4000000 in
set_option maxRecDepth 100000 in
theorem mc_hs_invite {E : Nat × (Nat → Int32)} (a1 : Int32) (w : sm_Mem) : sm_MC E mi_hs_invite [.ref 36, .int a1] w (ff_hs_invite a1 w) := sm_MC_of E (by decide +kernel) rfl (Nat.le_of_ble_eq_true rfl) (ss_hs_invite_0 a1 w)
abbrev mi_hs_dismiss : sm_MI := (⟨"HerOrders$House", "dismiss", "()V"⟩, prog_3_method_12_code, 1, none, 1)
set_option maxRecDepth 100000 in
theorem mf_hs_dismiss : sm_MF mi_hs_dismiss 0 := ⟨List.mem_of_getElem? (i := 673) (by decide +kernel), List.mem_of_getElem? (i := 73) (by decide +kernel), ⟨by decide, by decide⟩, by decide +kernel⟩
set_option maxRecDepth 100000 in
theorem mv_hs_dismiss : sm_MFV mi_hs_dismiss := ⟨List.mem_of_getElem? (i := 672) (by decide +kernel), List.mem_of_getElem? (i := 50) (by decide +kernel)⟩
set_option maxRecDepth 100000 in
theorem ii_hs_dismiss_0 : sm_D prog_3_method_12_code 0 1 1 (.aload_n 0) := ⟨by decide +kernel, rfl⟩
set_option maxRecDepth 100000 in
theorem ii_hs_dismiss_1 : sm_D prog_3_method_12_code 1 3 4 (.getfield 45) := ⟨by decide +kernel, rfl⟩
set_option maxRecDepth 100000 in
theorem ii_hs_dismiss_4 : sm_D prog_3_method_12_code 4 3 7 (.ifCond .le 13) := ⟨by decide +kernel, rfl⟩
set_option maxRecDepth 100000 in
theorem ii_hs_dismiss_7 : sm_D prog_3_method_12_code 7 1 8 (.aload_n 0) := ⟨by decide +kernel, rfl⟩
set_option maxRecDepth 100000 in
theorem ii_hs_dismiss_8 : sm_D prog_3_method_12_code 8 1 9 (.dup) := ⟨by decide +kernel, rfl⟩
set_option maxRecDepth 100000 in
theorem ii_hs_dismiss_9 : sm_D prog_3_method_12_code 9 3 12 (.getfield 45) := ⟨by decide +kernel, rfl⟩
set_option maxRecDepth 100000 in
theorem ii_hs_dismiss_12 : sm_D prog_3_method_12_code 12 1 13 (.iconst 1) := ⟨by decide +kernel, rfl⟩
set_option maxRecDepth 100000 in
theorem ii_hs_dismiss_13 : sm_D prog_3_method_12_code 13 1 14 (.isub) := ⟨by decide +kernel, rfl⟩
set_option maxRecDepth 100000 in
theorem ii_hs_dismiss_14 : sm_D prog_3_method_12_code 14 3 17 (.putfield 45) := ⟨by decide +kernel, rfl⟩
set_option maxRecDepth 100000 in
theorem ii_hs_dismiss_17 : sm_D prog_3_method_12_code 17 1 18 (.return_) := ⟨by decide +kernel, rfl⟩
noncomputable def ff_hs_dismiss   (w : sm_Mem) : sm_R := (if (w.1 36 0) ≤ (0 : Int32) then (some (.null, w)) else (sm_let (sm_wI w 36 0 ((w.1 36 0) - (1 : Int32))) fun w1 => (some (.null, w1))))
set_option maxHeartbeats 4000000 in
set_option maxRecDepth 100000 in
theorem ss_hs_dismiss_0 {E : Nat × (Nat → Int32)}   (w : sm_Mem) : sm_Sim E (mi_hs_dismiss) 0 [some (.ref 36)] [] w (ff_hs_dismiss   w) := by
  unfold ff_hs_dismiss
  refine sm_aload_n ii_hs_dismiss_0 rfl ?_
  refine sm_getI ii_hs_dismiss_1 fl_hs_45 (k := 36) rfl ?_
  refine sm_if_le 17 ii_hs_dismiss_4 (by decide) ?_ ?_
  · exact sm_vret ii_hs_dismiss_17 rfl
  · refine sm_aload_n ii_hs_dismiss_7 rfl ?_
    refine sm_dupR ii_hs_dismiss_8 ?_
    refine sm_getI ii_hs_dismiss_9 fl_hs_45 (k := 36) rfl ?_
    refine sm_iconst (1 : Int32) ii_hs_dismiss_12 (by decide) ?_
    refine sm_isub ii_hs_dismiss_13 ?_
    refine sm_putI ii_hs_dismiss_14 fp_hs_45 (k := 36) rfl (fun w1 => ?_)
    exact sm_vret ii_hs_dismiss_17 rfl
set_option maxHeartbeats 4000000 in
set_option maxRecDepth 100000 in
theorem mc_hs_dismiss {E : Nat × (Nat → Int32)}  (w : sm_Mem) : sm_MC E mi_hs_dismiss [.ref 36] w (ff_hs_dismiss  w) := sm_MC_of E (by decide +kernel) rfl (Nat.le_of_ble_eq_true rfl) (ss_hs_dismiss_0  w)
abbrev mi_ho_fourth : sm_MI := (⟨"HerOrders", "fourth", "(II)I"⟩, prog_1_method_33_code, 4, (some .int), 15)
set_option maxRecDepth 100000 in
theorem mf_ho_fourth : sm_MF mi_ho_fourth 2 := ⟨List.mem_of_getElem? (i := 665) (by decide +kernel), List.mem_of_getElem? (i := 69) (by decide +kernel), ⟨by decide, by decide⟩, by decide +kernel⟩
set_option maxRecDepth 100000 in
theorem mv_ho_fourth : sm_MFV mi_ho_fourth := ⟨List.mem_of_getElem? (i := 663) (by decide +kernel), List.mem_of_getElem? (i := 664) (by decide +kernel)⟩
set_option maxRecDepth 100000 in
theorem ii_ho_fourth_0 : sm_D prog_1_method_33_code 0 1 1 (.iload_n 2) := ⟨by decide +kernel, rfl⟩
set_option maxRecDepth 100000 in
theorem ii_ho_fourth_1 : sm_D prog_1_method_33_code 1 2 3 (.bipush 6) := ⟨by decide +kernel, rfl⟩
set_option maxRecDepth 100000 in
theorem ii_ho_fourth_3 : sm_D prog_1_method_33_code 3 3 6 (.invokestatic 81) := ⟨by decide +kernel, rfl⟩
set_option maxRecDepth 100000 in
theorem ii_ho_fourth_6 : sm_D prog_1_method_33_code 6 3 9 (.ifCond .ne 5) := ⟨by decide +kernel, rfl⟩
set_option maxRecDepth 100000 in
theorem ii_ho_fourth_9 : sm_D prog_1_method_33_code 9 1 10 (.iconst (-1)) := ⟨by decide +kernel, rfl⟩
set_option maxRecDepth 100000 in
theorem ii_ho_fourth_10 : sm_D prog_1_method_33_code 10 1 11 (.ireturn) := ⟨by decide +kernel, rfl⟩
set_option maxRecDepth 100000 in
theorem ii_ho_fourth_11 : sm_D prog_1_method_33_code 11 1 12 (.aload_n 0) := ⟨by decide +kernel, rfl⟩
set_option maxRecDepth 100000 in
theorem ii_ho_fourth_12 : sm_D prog_1_method_33_code 12 1 13 (.iload_n 1) := ⟨by decide +kernel, rfl⟩
set_option maxRecDepth 100000 in
theorem ii_ho_fourth_13 : sm_D prog_1_method_33_code 13 1 14 (.iconst 5) := ⟨by decide +kernel, rfl⟩
set_option maxRecDepth 100000 in
theorem ii_ho_fourth_14 : sm_D prog_1_method_33_code 14 3 17 (.invokevirtual 192) := ⟨by decide +kernel, rfl⟩
set_option maxRecDepth 100000 in
theorem ii_ho_fourth_17 : sm_D prog_1_method_33_code 17 1 18 (.istore_n 3) := ⟨by decide +kernel, rfl⟩
set_option maxRecDepth 100000 in
theorem ii_ho_fourth_18 : sm_D prog_1_method_33_code 18 1 19 (.iload_n 3) := ⟨by decide +kernel, rfl⟩
set_option maxRecDepth 100000 in
theorem ii_ho_fourth_19 : sm_D prog_1_method_33_code 19 3 22 (.ifCond .eq 5) := ⟨by decide +kernel, rfl⟩
set_option maxRecDepth 100000 in
theorem ii_ho_fourth_22 : sm_D prog_1_method_33_code 22 1 23 (.iload_n 3) := ⟨by decide +kernel, rfl⟩
set_option maxRecDepth 100000 in
theorem ii_ho_fourth_23 : sm_D prog_1_method_33_code 23 1 24 (.ireturn) := ⟨by decide +kernel, rfl⟩
set_option maxRecDepth 100000 in
theorem ii_ho_fourth_24 : sm_D prog_1_method_33_code 24 1 25 (.aload_n 0) := ⟨by decide +kernel, rfl⟩
set_option maxRecDepth 100000 in
theorem ii_ho_fourth_25 : sm_D prog_1_method_33_code 25 3 28 (.getfield 31) := ⟨by decide +kernel, rfl⟩
set_option maxRecDepth 100000 in
theorem ii_ho_fourth_28 : sm_D prog_1_method_33_code 28 3 31 (.getfield 115) := ⟨by decide +kernel, rfl⟩
set_option maxRecDepth 100000 in
theorem ii_ho_fourth_31 : sm_D prog_1_method_33_code 31 2 33 (.bipush 6) := ⟨by decide +kernel, rfl⟩
set_option maxRecDepth 100000 in
theorem ii_ho_fourth_33 : sm_D prog_1_method_33_code 33 3 36 (.if_icmp .lt 6) := ⟨by decide +kernel, rfl⟩
set_option maxRecDepth 100000 in
theorem ii_ho_fourth_36 : sm_D prog_1_method_33_code 36 2 38 (.bipush (-9)) := ⟨by decide +kernel, rfl⟩
set_option maxRecDepth 100000 in
theorem ii_ho_fourth_38 : sm_D prog_1_method_33_code 38 1 39 (.ireturn) := ⟨by decide +kernel, rfl⟩
set_option maxRecDepth 100000 in
theorem ii_ho_fourth_39 : sm_D prog_1_method_33_code 39 1 40 (.aload_n 0) := ⟨by decide +kernel, rfl⟩
set_option maxRecDepth 100000 in
theorem ii_ho_fourth_40 : sm_D prog_1_method_33_code 40 3 43 (.getfield 31) := ⟨by decide +kernel, rfl⟩
set_option maxRecDepth 100000 in
theorem ii_ho_fourth_43 : sm_D prog_1_method_33_code 43 1 44 (.iload_n 2) := ⟨by decide +kernel, rfl⟩
set_option maxRecDepth 100000 in
theorem ii_ho_fourth_44 : sm_D prog_1_method_33_code 44 3 47 (.invokevirtual 266) := ⟨by decide +kernel, rfl⟩
set_option maxRecDepth 100000 in
theorem ii_ho_fourth_47 : sm_D prog_1_method_33_code 47 1 48 (.aload_n 0) := ⟨by decide +kernel, rfl⟩
set_option maxRecDepth 100000 in
theorem ii_ho_fourth_48 : sm_D prog_1_method_33_code 48 3 51 (.getfield 40) := ⟨by decide +kernel, rfl⟩
set_option maxRecDepth 100000 in
theorem ii_ho_fourth_51 : sm_D prog_1_method_33_code 51 1 52 (.aload_n 0) := ⟨by decide +kernel, rfl⟩
set_option maxRecDepth 100000 in
theorem ii_ho_fourth_52 : sm_D prog_1_method_33_code 52 3 55 (.getfield 11) := ⟨by decide +kernel, rfl⟩
set_option maxRecDepth 100000 in
theorem ii_ho_fourth_55 : sm_D prog_1_method_33_code 55 1 56 (.iload_n 1) := ⟨by decide +kernel, rfl⟩
set_option maxRecDepth 100000 in
theorem ii_ho_fourth_56 : sm_D prog_1_method_33_code 56 1 57 (.aaload) := ⟨by decide +kernel, rfl⟩
set_option maxRecDepth 100000 in
theorem ii_ho_fourth_57 : sm_D prog_1_method_33_code 57 1 58 (.aload_n 0) := ⟨by decide +kernel, rfl⟩
set_option maxRecDepth 100000 in
theorem ii_ho_fourth_58 : sm_D prog_1_method_33_code 58 3 61 (.getfield 31) := ⟨by decide +kernel, rfl⟩
set_option maxRecDepth 100000 in
theorem ii_ho_fourth_61 : sm_D prog_1_method_33_code 61 3 64 (.getfield 115) := ⟨by decide +kernel, rfl⟩
set_option maxRecDepth 100000 in
theorem ii_ho_fourth_64 : sm_D prog_1_method_33_code 64 1 65 (.iconst 1) := ⟨by decide +kernel, rfl⟩
set_option maxRecDepth 100000 in
theorem ii_ho_fourth_65 : sm_D prog_1_method_33_code 65 1 66 (.isub) := ⟨by decide +kernel, rfl⟩
set_option maxRecDepth 100000 in
theorem ii_ho_fourth_66 : sm_D prog_1_method_33_code 66 3 69 (.invokevirtual 195) := ⟨by decide +kernel, rfl⟩
set_option maxRecDepth 100000 in
theorem ii_ho_fourth_69 : sm_D prog_1_method_33_code 69 1 70 (.aload_n 0) := ⟨by decide +kernel, rfl⟩
set_option maxRecDepth 100000 in
theorem ii_ho_fourth_70 : sm_D prog_1_method_33_code 70 3 73 (.getfield 31) := ⟨by decide +kernel, rfl⟩
set_option maxRecDepth 100000 in
theorem ii_ho_fourth_73 : sm_D prog_1_method_33_code 73 3 76 (.invokevirtual 269) := ⟨by decide +kernel, rfl⟩
set_option maxRecDepth 100000 in
theorem ii_ho_fourth_76 : sm_D prog_1_method_33_code 76 1 77 (.aload_n 0) := ⟨by decide +kernel, rfl⟩
set_option maxRecDepth 100000 in
theorem ii_ho_fourth_77 : sm_D prog_1_method_33_code 77 3 80 (.getfield 40) := ⟨by decide +kernel, rfl⟩
set_option maxRecDepth 100000 in
theorem ii_ho_fourth_80 : sm_D prog_1_method_33_code 80 3 83 (.getfield 272) := ⟨by decide +kernel, rfl⟩
set_option maxRecDepth 100000 in
theorem ii_ho_fourth_83 : sm_D prog_1_method_33_code 83 2 85 (.bipush (-9)) := ⟨by decide +kernel, rfl⟩
set_option maxRecDepth 100000 in
theorem ii_ho_fourth_85 : sm_D prog_1_method_33_code 85 3 88 (.if_icmp .ne 6) := ⟨by decide +kernel, rfl⟩
set_option maxRecDepth 100000 in
theorem ii_ho_fourth_88 : sm_D prog_1_method_33_code 88 2 90 (.bipush (-9)) := ⟨by decide +kernel, rfl⟩
set_option maxRecDepth 100000 in
theorem ii_ho_fourth_90 : sm_D prog_1_method_33_code 90 1 91 (.ireturn) := ⟨by decide +kernel, rfl⟩
set_option maxRecDepth 100000 in
theorem ii_ho_fourth_91 : sm_D prog_1_method_33_code 91 1 92 (.aload_n 0) := ⟨by decide +kernel, rfl⟩
set_option maxRecDepth 100000 in
theorem ii_ho_fourth_92 : sm_D prog_1_method_33_code 92 3 95 (.getfield 54) := ⟨by decide +kernel, rfl⟩
set_option maxRecDepth 100000 in
theorem ii_ho_fourth_95 : sm_D prog_1_method_33_code 95 1 96 (.aload_n 0) := ⟨by decide +kernel, rfl⟩
set_option maxRecDepth 100000 in
theorem ii_ho_fourth_96 : sm_D prog_1_method_33_code 96 3 99 (.getfield 40) := ⟨by decide +kernel, rfl⟩
set_option maxRecDepth 100000 in
theorem ii_ho_fourth_99 : sm_D prog_1_method_33_code 99 3 102 (.getfield 272) := ⟨by decide +kernel, rfl⟩
set_option maxRecDepth 100000 in
theorem ii_ho_fourth_102 : sm_D prog_1_method_33_code 102 3 105 (.putfield 70) := ⟨by decide +kernel, rfl⟩
set_option maxRecDepth 100000 in
theorem ii_ho_fourth_105 : sm_D prog_1_method_33_code 105 1 106 (.aload_n 0) := ⟨by decide +kernel, rfl⟩
set_option maxRecDepth 100000 in
theorem ii_ho_fourth_106 : sm_D prog_1_method_33_code 106 3 109 (.getfield 40) := ⟨by decide +kernel, rfl⟩
set_option maxRecDepth 100000 in
theorem ii_ho_fourth_109 : sm_D prog_1_method_33_code 109 3 112 (.getfield 272) := ⟨by decide +kernel, rfl⟩
set_option maxRecDepth 100000 in
theorem ii_ho_fourth_112 : sm_D prog_1_method_33_code 112 3 115 (.invokestatic 144) := ⟨by decide +kernel, rfl⟩
set_option maxRecDepth 100000 in
theorem ii_ho_fourth_115 : sm_D prog_1_method_33_code 115 1 116 (.ireturn) := ⟨by decide +kernel, rfl⟩
noncomputable def ff_ho_fourth  (a1 : Int32) (a2 : Int32) (w : sm_Mem) : sm_R := (sm_cI (ff_ho_isWithin (a2) ((6 : Int32)) w) fun x1 w2 => (if x1 = (0 : Int32) then (some (.int (-1 : Int32), w2)) else (sm_cI (ff_ho_refusalOfWords (a1) ((5 : Int32)) w2) fun x3 w4 => (if x3 = (0 : Int32) then (if (w4.1 36 0) < (6 : Int32) then (sm_cV (ff_hs_invite (a2) w4) fun w6 => (Option.bind (sm_rr 1 a1) fun r7 => (sm_cV (ff_wy_runWords (r7) (((w6.1 36 0) - (1 : Int32))) w6) fun w9 => (sm_cV (ff_hs_dismiss  w9) fun w11 => (if (w11.1 49 13) = (-9 : Int32) then (some (.int (-9 : Int32), w11)) else (sm_let (sm_wI w11 60 0 (w11.1 49 13)) fun w12 => (sm_cI (ff_ig_bitCount ((w12.1 49 13)) w12) fun x13 w14 => (some (.int x13, w14))))))))) else (some (.int (-9 : Int32), w4))) else (some (.int x3, w4))))))
set_option maxHeartbeats 4000000 in
set_option maxRecDepth 100000 in
theorem ss_ho_fourth_0 {E : Nat × (Nat → Int32)}  (a1 : Int32) (a2 : Int32) (w : sm_Mem) : sm_Sim E (mi_ho_fourth) 0 [some (.ref 0), some (.int a1), some (.int a2), none] [] w (ff_ho_fourth  a1 a2 w) := by
  unfold ff_ho_fourth
  refine sm_iload_n ii_ho_fourth_0 rfl ?_
  refine sm_bipush (6 : Int32) ii_ho_fourth_1 (by decide) ?_
  refine sm_csI [.int a2, .int (6 : Int32)] [] rfl ii_ho_fourth_3 ml_ho_81 (mf_ho_isWithin) (mv_ho_isWithin) (Nat.le_of_ble_eq_true rfl) rfl rfl rfl (mc_ho_isWithin (a2) ((6 : Int32)) w) (fun x1 w2 => ?_)
  refine sm_if_ne 11 ii_ho_fourth_6 (by decide) ?_ ?_
  · refine sm_iconst (-1 : Int32) ii_ho_fourth_9 (by decide) ?_
    exact sm_iret ii_ho_fourth_10 rfl
  · refine sm_aload_n ii_ho_fourth_11 rfl ?_
    refine sm_iload_n ii_ho_fourth_12 rfl ?_
    refine sm_iconst (5 : Int32) ii_ho_fourth_13 (by decide) ?_
    refine sm_cvI [.int a1, .int (5 : Int32)] [] rfl ii_ho_fourth_14 ml_ho_192 (mf_ho_refusalOfWords) (mv_ho_refusalOfWords) (Nat.le_of_ble_eq_true rfl) rfl 6 rfl rfl rfl rfl (mc_ho_refusalOfWords (a1) ((5 : Int32)) w2) (fun x3 w4 => ?_)
    refine sm_istore_n [some (.ref 0), some (.int a1), some (.int a2), some (.int x3)] ii_ho_fourth_17 rfl rfl ?_
    refine sm_iload_n ii_ho_fourth_18 rfl ?_
    refine sm_if_eq 24 ii_ho_fourth_19 (by decide) ?_ ?_
    · refine sm_aload_n ii_ho_fourth_24 rfl ?_
      refine sm_getR 36 ii_ho_fourth_25 fl_ho_31 (k := 0) rfl ?_
      refine sm_getI ii_ho_fourth_28 fl_ho_115 (k := 36) rfl ?_
      refine sm_bipush (6 : Int32) ii_ho_fourth_31 (by decide) ?_
      refine sm_icmp_lt 39 ii_ho_fourth_33 (by decide) ?_ ?_
      · refine sm_aload_n ii_ho_fourth_39 rfl ?_
        refine sm_getR 36 ii_ho_fourth_40 fl_ho_31 (k := 0) rfl ?_
        refine sm_iload_n ii_ho_fourth_43 rfl ?_
        refine sm_cvV [.int a2] [] rfl ii_ho_fourth_44 ml_ho_266 (mf_hs_invite) (mv_hs_invite) (Nat.le_of_ble_eq_true rfl) rfl 1 rfl rfl rfl rfl (mc_hs_invite (a2) w4) (fun w6 => ?_)
        refine sm_aload_n ii_ho_fourth_47 rfl ?_
        refine sm_getR 49 ii_ho_fourth_48 fl_ho_40 (k := 0) rfl ?_
        refine sm_aload_n ii_ho_fourth_51 rfl ?_
        refine sm_getR 1 ii_ho_fourth_52 fl_ho_11 (k := 0) rfl ?_
        refine sm_iload_n ii_ho_fourth_55 rfl ?_
        refine sm_aald ii_ho_fourth_56 (fun r7 => ?_)
        refine sm_aload_n ii_ho_fourth_57 rfl ?_
        refine sm_getR 36 ii_ho_fourth_58 fl_ho_31 (k := 0) rfl ?_
        refine sm_getI ii_ho_fourth_61 fl_ho_115 (k := 36) rfl ?_
        refine sm_iconst (1 : Int32) ii_ho_fourth_64 (by decide) ?_
        refine sm_isub ii_ho_fourth_65 ?_
        refine sm_cvV [.ref r7, .int ((w6.1 36 0) - (1 : Int32))] [] rfl ii_ho_fourth_66 ml_ho_195 (mf_wy_runWords) (mv_wy_runWords) (Nat.le_of_ble_eq_true rfl) rfl 5 rfl rfl rfl rfl (mc_wy_runWords (r7) (((w6.1 36 0) - (1 : Int32))) w6) (fun w9 => ?_)
        refine sm_aload_n ii_ho_fourth_69 rfl ?_
        refine sm_getR 36 ii_ho_fourth_70 fl_ho_31 (k := 0) rfl ?_
        refine sm_cvV [] [] rfl ii_ho_fourth_73 ml_ho_269 (mf_hs_dismiss) (mv_hs_dismiss) (Nat.le_of_ble_eq_true rfl) rfl 1 rfl rfl rfl rfl (mc_hs_dismiss  w9) (fun w11 => ?_)
        refine sm_aload_n ii_ho_fourth_76 rfl ?_
        refine sm_getR 49 ii_ho_fourth_77 fl_ho_40 (k := 0) rfl ?_
        refine sm_getI ii_ho_fourth_80 fl_ho_272 (k := 49) rfl ?_
        refine sm_bipush (-9 : Int32) ii_ho_fourth_83 (by decide) ?_
        refine sm_icmp_ne 91 ii_ho_fourth_85 (by decide) ?_ ?_
        · refine sm_bipush (-9 : Int32) ii_ho_fourth_88 (by decide) ?_
          exact sm_iret ii_ho_fourth_90 rfl
        · refine sm_aload_n ii_ho_fourth_91 rfl ?_
          refine sm_getR 60 ii_ho_fourth_92 fl_ho_54 (k := 0) rfl ?_
          refine sm_aload_n ii_ho_fourth_95 rfl ?_
          refine sm_getR 49 ii_ho_fourth_96 fl_ho_40 (k := 0) rfl ?_
          refine sm_getI ii_ho_fourth_99 fl_ho_272 (k := 49) rfl ?_
          refine sm_putI ii_ho_fourth_102 fp_ho_70 (k := 60) rfl (fun w12 => ?_)
          refine sm_aload_n ii_ho_fourth_105 rfl ?_
          refine sm_getR 49 ii_ho_fourth_106 fl_ho_40 (k := 0) rfl ?_
          refine sm_getI ii_ho_fourth_109 fl_ho_272 (k := 49) rfl ?_
          refine sm_csI [.int (w12.1 49 13)] [] rfl ii_ho_fourth_112 ml_ho_144 (mf_ig_bitCount) (mv_ig_bitCount) (Nat.le_of_ble_eq_true rfl) rfl rfl rfl (mc_ig_bitCount ((w12.1 49 13)) w12) (fun x13 w14 => ?_)
          exact sm_iret ii_ho_fourth_115 rfl
      · refine sm_bipush (-9 : Int32) ii_ho_fourth_36 (by decide) ?_
        exact sm_iret ii_ho_fourth_38 rfl
    · refine sm_iload_n ii_ho_fourth_22 rfl ?_
      exact sm_iret ii_ho_fourth_23 rfl
set_option maxHeartbeats 4000000 in
set_option maxRecDepth 100000 in
theorem mc_ho_fourth {E : Nat × (Nat → Int32)} (a1 : Int32) (a2 : Int32) (w : sm_Mem) : sm_MC E mi_ho_fourth [.ref 0, .int a1, .int a2] w (ff_ho_fourth a1 a2 w) := sm_MC_of E (by decide +kernel) rfl (Nat.le_of_ble_eq_true rfl) (ss_ho_fourth_0 a1 a2 w)
