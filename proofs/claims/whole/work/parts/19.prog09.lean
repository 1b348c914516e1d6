/-! the program, by a program: functions of its methods and that the methods do them -/
set_option maxRecDepth 100000 in
theorem ml_ho_362 : sm_ML "HerOrders" 362 ⟨"HerOrders$House", "push", "(II)V"⟩ := Or.inr ⟨"HerOrders", List.mem_of_getElem? (i := 824) (by decide +kernel)⟩
set_option maxRecDepth 100000 in
theorem ml_ho_278 : sm_ML "HerOrders" 278 ⟨"HerOrders", "outcome", "(LHerOrders$House;I)I"⟩ := Or.inl (List.mem_of_getElem? (i := 817) (by decide +kernel))
set_option maxRecDepth 100000 in
theorem ml_ho_365 : sm_ML "HerOrders" 365 ⟨"HerOrders$House", "pop", "()V"⟩ := Or.inr ⟨"HerOrders", List.mem_of_getElem? (i := 825) (by decide +kernel)⟩
set_option maxRecDepth 100000 in
theorem ml_ho_359 : sm_ML "HerOrders" 359 ⟨"HerOrders$House", "isSilenced", "()Z"⟩ := Or.inr ⟨"HerOrders", List.mem_of_getElem? (i := 820) (by decide +kernel)⟩
set_option maxRecDepth 100000 in
theorem ml_mo_269 : sm_ML "HerOrdersModel" 269 ⟨"HerOrdersModel", "copyPart", "(II)V"⟩ := Or.inl (List.mem_of_getElem? (i := 1367) (by decide +kernel))
set_option maxRecDepth 100000 in
theorem ml_mo_275 : sm_ML "HerOrdersModel" 275 ⟨"HerOrdersModel", "moves", "(III)Z"⟩ := Or.inl (List.mem_of_getElem? (i := 1363) (by decide +kernel))
set_option maxRecDepth 100000 in
theorem ml_mo_272 : sm_ML "HerOrdersModel" 272 ⟨"HerOrdersModel", "isDumb", "(I)Z"⟩ := Or.inl (List.mem_of_getElem? (i := 1375) (by decide +kernel))
set_option maxRecDepth 100000 in
theorem ml_mo_278 : sm_ML "HerOrdersModel" 278 ⟨"HerOrdersModel", "struckByTwo", "(II)I"⟩ := Or.inl (List.mem_of_getElem? (i := 1371) (by decide +kernel))
set_option maxRecDepth 100000 in
theorem ml_mo_281 : sm_ML "HerOrdersModel" 281 ⟨"HerOrdersModel", "struckByThree", "()I"⟩ := Or.inl (List.mem_of_getElem? (i := 1359) (by decide +kernel))
set_option maxRecDepth 100000 in
theorem ml_wy_123 : sm_ML "HerOrders$Ways" 123 ⟨"HerOrders$House", "allSpeakers", "()I"⟩ := Or.inr ⟨"HerOrders", List.mem_of_getElem? (i := 838) (by decide +kernel)⟩
set_option maxRecDepth 100000 in
theorem ml_wy_126 : sm_ML "HerOrders$Ways" 126 ⟨"HerOrders$Ways", "weightOf", "(II)J"⟩ := Or.inl (List.mem_of_getElem? (i := 839) (by decide +kernel))
set_option maxRecDepth 100000 in
theorem ml_wy_120 : sm_ML "HerOrders$Ways" 120 ⟨"HerOrders$Ways", "spreadReach", "()V"⟩ := Or.inl (List.mem_of_getElem? (i := 834) (by decide +kernel))
set_option maxRecDepth 100000 in
theorem ml_ho_282 : sm_ML "HerOrders" 282 ⟨"HerOrders$Ways", "weightOfFull", "(I)J"⟩ := Or.inr ⟨"HerOrders", List.mem_of_getElem? (i := 830) (by decide +kernel)⟩
set_option maxRecDepth 100000 in
theorem ml_ho_286 : sm_ML "HerOrders" 286 ⟨"HerOrders$Ways", "weightOfAny", "()J"⟩ := Or.inr ⟨"HerOrders", List.mem_of_getElem? (i := 843) (by decide +kernel)⟩
set_option maxRecDepth 100000 in
theorem ml_mo_284 : sm_ML "HerOrdersModel" 284 ⟨"HerOrdersModel", "tellParts", "(JJ)I"⟩ := Or.inl (List.mem_of_getElem? (i := 1388) (by decide +kernel))
set_option maxRecDepth 100000 in
theorem ml_mo_290 : sm_ML "HerOrdersModel" 290 ⟨"HerOrdersModel", "tellSilent", "(IIZ)I"⟩ := Or.inl (List.mem_of_getElem? (i := 1384) (by decide +kernel))
set_option maxRecDepth 100000 in
theorem ml_ho_289 : sm_ML "HerOrders" 289 ⟨"HerOrders$Ways", "weightOfWords", "(I)J"⟩ := Or.inr ⟨"HerOrders", List.mem_of_getElem? (i := 852) (by decide +kernel)⟩
set_option maxRecDepth 100000 in
theorem ml_hs_86 : sm_ML "HerOrders$House" 86 ⟨"HerOrders$House", "enact", "(III)V"⟩ := Or.inl (List.mem_of_getElem? (i := 869) (by decide +kernel))
set_option maxRecDepth 100000 in
theorem ml_ho_296 : sm_ML "HerOrders" 296 ⟨"HerOrders$House", "enactLot", "(J)V"⟩ := Or.inr ⟨"HerOrders", List.mem_of_getElem? (i := 862) (by decide +kernel)⟩
abbrev mi_ho_outcome (k : Nat) : sm_MI := (⟨"HerOrders", "outcome", "(LHerOrders$House;I)I"⟩, prog_1_method_61_code, 6, (some .int), k)
set_option maxRecDepth 100000 in
theorem mf_ho_outcome_z : sm_MF (mi_ho_outcome 0) 2 := ⟨List.mem_of_getElem? (i := 819) (by decide +kernel), List.mem_of_getElem? (i := 124) (by decide +kernel), ⟨by decide, by decide⟩, by decide +kernel⟩
set_option maxRecDepth 100000 in
theorem mf_ho_outcome (k : Nat) : sm_MF (mi_ho_outcome k) 2 := mf_ho_outcome_z
set_option maxRecDepth 100000 in
theorem mv_ho_outcome_z : sm_MFS (mi_ho_outcome 0) := List.mem_of_getElem? (i := 818) (by decide +kernel)
set_option maxRecDepth 100000 in
theorem mv_ho_outcome (k : Nat) : sm_MFS (mi_ho_outcome k) := mv_ho_outcome_z
set_option maxRecDepth 100000 in
theorem ii_ho_outcome_0 : sm_D prog_1_method_61_code 0 1 1 (.iload_n 1) := ⟨by decide +kernel, rfl⟩
set_option maxRecDepth 100000 in
theorem ii_ho_outcome_1 : sm_D prog_1_method_61_code 1 3 4 (.ifCond .gt 6) := ⟨by decide +kernel, rfl⟩
set_option maxRecDepth 100000 in
theorem ii_ho_outcome_4 : sm_D prog_1_method_61_code 4 2 6 (.bipush (-9)) := ⟨by decide +kernel, rfl⟩
set_option maxRecDepth 100000 in
theorem ii_ho_outcome_6 : sm_D prog_1_method_61_code 6 1 7 (.ireturn) := ⟨by decide +kernel, rfl⟩
set_option maxRecDepth 100000 in
theorem ii_ho_outcome_7 : sm_D prog_1_method_61_code 7 1 8 (.iload_n 1) := ⟨by decide +kernel, rfl⟩
set_option maxRecDepth 100000 in
theorem ii_ho_outcome_8 : sm_D prog_1_method_61_code 8 1 9 (.iconst 1) := ⟨by decide +kernel, rfl⟩
set_option maxRecDepth 100000 in
theorem ii_ho_outcome_9 : sm_D prog_1_method_61_code 9 3 12 (.if_icmp .ne 17) := ⟨by decide +kernel, rfl⟩
set_option maxRecDepth 100000 in
theorem ii_ho_outcome_12 : sm_D prog_1_method_61_code 12 1 13 (.aload_n 0) := ⟨by decide +kernel, rfl⟩
set_option maxRecDepth 100000 in
theorem ii_ho_outcome_13 : sm_D prog_1_method_61_code 13 3 16 (.invokevirtual 359) := ⟨by decide +kernel, rfl⟩
set_option maxRecDepth 100000 in
theorem ii_ho_outcome_16 : sm_D prog_1_method_61_code 16 3 19 (.ifCond .eq 7) := ⟨by decide +kernel, rfl⟩
set_option maxRecDepth 100000 in
theorem ii_ho_outcome_19 : sm_D prog_1_method_61_code 19 1 20 (.iconst 1) := ⟨by decide +kernel, rfl⟩
set_option maxRecDepth 100000 in
theorem ii_ho_outcome_20 : sm_D prog_1_method_61_code 20 3 23 (.goto 5) := ⟨by decide +kernel, rfl⟩
set_option maxRecDepth 100000 in
theorem ii_ho_outcome_23 : sm_D prog_1_method_61_code 23 2 25 (.bipush (-9)) := ⟨by decide +kernel, rfl⟩
set_option maxRecDepth 100000 in
theorem ii_ho_outcome_25 : sm_D prog_1_method_61_code 25 1 26 (.ireturn) := ⟨by decide +kernel, rfl⟩
set_option maxRecDepth 100000 in
theorem ii_ho_outcome_26 : sm_D prog_1_method_61_code 26 1 27 (.iconst 1) := ⟨by decide +kernel, rfl⟩
set_option maxRecDepth 100000 in
theorem ii_ho_outcome_27 : sm_D prog_1_method_61_code 27 1 28 (.istore_n 2) := ⟨by decide +kernel, rfl⟩
set_option maxRecDepth 100000 in
theorem ii_ho_outcome_28 : sm_D prog_1_method_61_code 28 1 29 (.iconst 0) := ⟨by decide +kernel, rfl⟩
set_option maxRecDepth 100000 in
theorem ii_ho_outcome_29 : sm_D prog_1_method_61_code 29 1 30 (.istore_n 3) := ⟨by decide +kernel, rfl⟩
set_option maxRecDepth 100000 in
theorem ii_ho_outcome_30 : sm_D prog_1_method_61_code 30 1 31 (.iload_n 3) := ⟨by decide +kernel, rfl⟩
set_option maxRecDepth 100000 in
theorem ii_ho_outcome_31 : sm_D prog_1_method_61_code 31 1 32 (.aload_n 0) := ⟨by decide +kernel, rfl⟩
set_option maxRecDepth 100000 in
theorem ii_ho_outcome_32 : sm_D prog_1_method_61_code 32 3 35 (.getfield 115) := ⟨by decide +kernel, rfl⟩
set_option maxRecDepth 100000 in
theorem ii_ho_outcome_35 : sm_D prog_1_method_61_code 35 3 38 (.if_icmp .ge 73) := ⟨by decide +kernel, rfl⟩
set_option maxRecDepth 100000 in
theorem ii_ho_outcome_38 : sm_D prog_1_method_61_code 38 1 39 (.iconst 0) := ⟨by decide +kernel, rfl⟩
set_option maxRecDepth 100000 in
theorem ii_ho_outcome_39 : sm_D prog_1_method_61_code 39 2 41 (.istore 4) := ⟨by decide +kernel, rfl⟩
set_option maxRecDepth 100000 in
theorem ii_ho_outcome_41 : sm_D prog_1_method_61_code 41 2 43 (.iload 4) := ⟨by decide +kernel, rfl⟩
set_option maxRecDepth 100000 in
theorem ii_ho_outcome_43 : sm_D prog_1_method_61_code 43 2 45 (.bipush 6) := ⟨by decide +kernel, rfl⟩
set_option maxRecDepth 100000 in
theorem ii_ho_outcome_45 : sm_D prog_1_method_61_code 45 3 48 (.if_icmp .ge 57) := ⟨by decide +kernel, rfl⟩
set_option maxRecDepth 100000 in
theorem ii_ho_outcome_48 : sm_D prog_1_method_61_code 48 1 49 (.aload_n 0) := ⟨by decide +kernel, rfl⟩
set_option maxRecDepth 100000 in
theorem ii_ho_outcome_49 : sm_D prog_1_method_61_code 49 1 50 (.iload_n 3) := ⟨by decide +kernel, rfl⟩
set_option maxRecDepth 100000 in
theorem ii_ho_outcome_50 : sm_D prog_1_method_61_code 50 2 52 (.iload 4) := ⟨by decide +kernel, rfl⟩
set_option maxRecDepth 100000 in
theorem ii_ho_outcome_52 : sm_D prog_1_method_61_code 52 3 55 (.invokevirtual 152) := ⟨by decide +kernel, rfl⟩
set_option maxRecDepth 100000 in
theorem ii_ho_outcome_55 : sm_D prog_1_method_61_code 55 3 58 (.ifCond .ne 6) := ⟨by decide +kernel, rfl⟩
set_option maxRecDepth 100000 in
theorem ii_ho_outcome_58 : sm_D prog_1_method_61_code 58 3 61 (.goto 38) := ⟨by decide +kernel, rfl⟩
set_option maxRecDepth 100000 in
theorem ii_ho_outcome_61 : sm_D prog_1_method_61_code 61 1 62 (.aload_n 0) := ⟨by decide +kernel, rfl⟩
set_option maxRecDepth 100000 in
theorem ii_ho_outcome_62 : sm_D prog_1_method_61_code 62 1 63 (.iload_n 3) := ⟨by decide +kernel, rfl⟩
set_option maxRecDepth 100000 in
theorem ii_ho_outcome_63 : sm_D prog_1_method_61_code 63 2 65 (.iload 4) := ⟨by decide +kernel, rfl⟩
set_option maxRecDepth 100000 in
theorem ii_ho_outcome_65 : sm_D prog_1_method_61_code 65 3 68 (.invokevirtual 362) := ⟨by decide +kernel, rfl⟩
set_option maxRecDepth 100000 in
theorem ii_ho_outcome_68 : sm_D prog_1_method_61_code 68 1 69 (.aload_n 0) := ⟨by decide +kernel, rfl⟩
set_option maxRecDepth 100000 in
theorem ii_ho_outcome_69 : sm_D prog_1_method_61_code 69 1 70 (.iload_n 1) := ⟨by decide +kernel, rfl⟩
set_option maxRecDepth 100000 in
theorem ii_ho_outcome_70 : sm_D prog_1_method_61_code 70 1 71 (.iconst 1) := ⟨by decide +kernel, rfl⟩
set_option maxRecDepth 100000 in
theorem ii_ho_outcome_71 : sm_D prog_1_method_61_code 71 1 72 (.isub) := ⟨by decide +kernel, rfl⟩
set_option maxRecDepth 100000 in
theorem ii_ho_outcome_72 : sm_D prog_1_method_61_code 72 3 75 (.invokestatic 278) := ⟨by decide +kernel, rfl⟩
set_option maxRecDepth 100000 in
theorem ii_ho_outcome_75 : sm_D prog_1_method_61_code 75 2 77 (.istore 5) := ⟨by decide +kernel, rfl⟩
set_option maxRecDepth 100000 in
theorem ii_ho_outcome_77 : sm_D prog_1_method_61_code 77 1 78 (.aload_n 0) := ⟨by decide +kernel, rfl⟩
set_option maxRecDepth 100000 in
theorem ii_ho_outcome_78 : sm_D prog_1_method_61_code 78 3 81 (.invokevirtual 365) := ⟨by decide +kernel, rfl⟩
set_option maxRecDepth 100000 in
theorem ii_ho_outcome_81 : sm_D prog_1_method_61_code 81 2 83 (.iload 5) := ⟨by decide +kernel, rfl⟩
set_option maxRecDepth 100000 in
theorem ii_ho_outcome_83 : sm_D prog_1_method_61_code 83 1 84 (.iconst 1) := ⟨by decide +kernel, rfl⟩
set_option maxRecDepth 100000 in
theorem ii_ho_outcome_84 : sm_D prog_1_method_61_code 84 3 87 (.if_icmp .ne 5) := ⟨by decide +kernel, rfl⟩
set_option maxRecDepth 100000 in
theorem ii_ho_outcome_87 : sm_D prog_1_method_61_code 87 1 88 (.iconst 0) := ⟨by decide +kernel, rfl⟩
set_option maxRecDepth 100000 in
theorem ii_ho_outcome_88 : sm_D prog_1_method_61_code 88 1 89 (.ireturn) := ⟨by decide +kernel, rfl⟩
set_option maxRecDepth 100000 in
theorem ii_ho_outcome_89 : sm_D prog_1_method_61_code 89 2 91 (.iload 5) := ⟨by decide +kernel, rfl⟩
set_option maxRecDepth 100000 in
theorem ii_ho_outcome_91 : sm_D prog_1_method_61_code 91 3 94 (.ifCond .eq 5) := ⟨by decide +kernel, rfl⟩
set_option maxRecDepth 100000 in
theorem ii_ho_outcome_94 : sm_D prog_1_method_61_code 94 1 95 (.iconst 0) := ⟨by decide +kernel, rfl⟩
set_option maxRecDepth 100000 in
theorem ii_ho_outcome_95 : sm_D prog_1_method_61_code 95 1 96 (.istore_n 2) := ⟨by decide +kernel, rfl⟩
set_option maxRecDepth 100000 in
theorem ii_ho_outcome_96 : sm_D prog_1_method_61_code 96 3 99 (.iinc 4 1) := ⟨by decide +kernel, rfl⟩
set_option maxRecDepth 100000 in
theorem ii_ho_outcome_99 : sm_D prog_1_method_61_code 99 3 102 (.goto (-58)) := ⟨by decide +kernel, rfl⟩
set_option maxRecDepth 100000 in
theorem ii_ho_outcome_102 : sm_D prog_1_method_61_code 102 3 105 (.iinc 3 1) := ⟨by decide +kernel, rfl⟩
set_option maxRecDepth 100000 in
theorem ii_ho_outcome_105 : sm_D prog_1_method_61_code 105 3 108 (.goto (-75)) := ⟨by decide +kernel, rfl⟩
set_option maxRecDepth 100000 in
theorem ii_ho_outcome_108 : sm_D prog_1_method_61_code 108 1 109 (.iload_n 2) := ⟨by decide +kernel, rfl⟩
set_option maxRecDepth 100000 in
theorem ii_ho_outcome_109 : sm_D prog_1_method_61_code 109 3 112 (.ifCond .eq 7) := ⟨by decide +kernel, rfl⟩
set_option maxRecDepth 100000 in
theorem ii_ho_outcome_112 : sm_D prog_1_method_61_code 112 1 113 (.iconst 1) := ⟨by decide +kernel, rfl⟩
set_option maxRecDepth 100000 in
theorem ii_ho_outcome_113 : sm_D prog_1_method_61_code 113 3 116 (.goto 5) := ⟨by decide +kernel, rfl⟩
set_option maxRecDepth 100000 in
theorem ii_ho_outcome_116 : sm_D prog_1_method_61_code 116 2 118 (.bipush (-9)) := ⟨by decide +kernel, rfl⟩
set_option maxRecDepth 100000 in
theorem ii_ho_outcome_118 : sm_D prog_1_method_61_code 118 1 119 (.ireturn) := ⟨by decide +kernel, rfl⟩
noncomputable def ff_ho_outcome_41_b (rc : Int32 → sm_Mem → sm_R) (self30 : Int32 → Int32 → Int32 → sm_Mem → sm_R) (self41 : Int32 → Int32 → Int32 → Int32 → sm_Mem → sm_R) (a1 : Int32) (a2 : Int32) (a3 : Int32) (a4 : Int32) (w : sm_Mem) : sm_R := (if (6 : Int32) ≤ a4 then self30 (a1) (a2) ((a3 + (1 : Int32))) w else (sm_cI (ff_hs_can (a3) (a4) w) fun x1 w2 => (if x1 = (0 : Int32) then self41 (a1) (a2) (a3) ((a4 + (1 : Int32))) w2 else (sm_cV (ff_hs_push (a3) (a4) w2) fun w4 => (sm_cI (rc ((a1 - (1 : Int32))) w4) fun x5 w6 => (sm_cV (ff_hs_pop  w6) fun w8 => (if x5 = (1 : Int32) then (some (.int (0 : Int32), w8)) else (if x5 = (0 : Int32) then self41 (a1) (a2) (a3) ((a4 + (1 : Int32))) w8 else self41 (a1) ((0 : Int32)) (a3) ((a4 + (1 : Int32))) w8))))))))
noncomputable def ff_ho_outcome_41_f (rc : Int32 → sm_Mem → sm_R) (self30 : Int32 → Int32 → Int32 → sm_Mem → sm_R) : Nat → Int32 → Int32 → Int32 → Int32 → sm_Mem → sm_R
  | 0, _, _, _, _, _ => none
  | n + 1, a1, a2, a3, a4, w => ff_ho_outcome_41_b rc self30 (ff_ho_outcome_41_f rc self30 n) a1 a2 a3 a4 w
noncomputable def ff_ho_outcome_41 (rc : Int32 → sm_Mem → sm_R) (self30 : Int32 → Int32 → Int32 → sm_Mem → sm_R) (a1 : Int32) (a2 : Int32) (a3 : Int32) (a4 : Int32) (w : sm_Mem) : sm_R := ff_ho_outcome_41_f rc self30 sm_N a1 a2 a3 a4 w
set_option maxHeartbeats 4000000 in
set_option maxRecDepth 100000 in
theorem ss_ho_outcome_41_b {E : Nat × (Nat → Int32)} {dn : Nat} (rc : Int32 → sm_Mem → sm_R) (hrc : ∀ (a1 : Int32) (w : sm_Mem), sm_MC (mi_ho_outcome (5 + dn)) [.ref 36, .int a1] w (rc a1 w)) (self30 : Int32 → Int32 → Int32 → sm_Mem → sm_R) (hself30 : ∀ (a1 : Int32) (a2 : Int32) (a3 : Int32) (w : sm_Mem), sm_Sim E (mi_ho_outcome (5 + dn + 1)) 30 [some (.ref 36), some (.int a1), some (.int a2), some (.int a3), none, none] [] w (self30 a1 a2 a3 w)) (self41 : Int32 → Int32 → Int32 → Int32 → sm_Mem → sm_R) (hself41 : ∀ (a1 : Int32) (a2 : Int32) (a3 : Int32) (a4 : Int32) (w : sm_Mem), sm_Sim E (mi_ho_outcome (5 + dn + 1)) 41 [some (.ref 36), some (.int a1), some (.int a2), some (.int a3), some (.int a4), none] [] w (self41 a1 a2 a3 a4 w)) (a1 : Int32) (a2 : Int32) (a3 : Int32) (a4 : Int32) (w : sm_Mem) : sm_Sim E (mi_ho_outcome (5 + dn + 1)) 41 [some (.ref 36), some (.int a1), some (.int a2), some (.int a3), some (.int a4), none] [] w (ff_ho_outcome_41_b rc self30 self41 a1 a2 a3 a4 w) := by
  unfold ff_ho_outcome_41_b
  refine sm_iload ii_ho_outcome_41 rfl ?_
  refine sm_bipush (6 : Int32) ii_ho_outcome_43 (by decide) ?_
  refine sm_icmp_ge 102 ii_ho_outcome_45 (by decide) ?_ ?_
  · refine sm_iinc (a3 + (1 : Int32)) [some (.ref 36), some (.int a1), some (.int a2), some (.int (a3 + (1 : Int32))), some (.int a4), none] ii_ho_outcome_102 rfl rfl rfl rfl ?_
    refine sm_goto 30 ii_ho_outcome_105 (by decide) ?_
    refine sm_msk [true, true, true, true, false, false] [some (.ref 36), some (.int a1), some (.int a2), some (.int (a3 + (1 : Int32))), none, none] rfl ?_
    exact hself30 (a1) (a2) ((a3 + (1 : Int32))) w
  · refine sm_aload_n ii_ho_outcome_48 rfl ?_
    refine sm_iload_n ii_ho_outcome_49 rfl ?_
    refine sm_iload ii_ho_outcome_50 rfl ?_
    refine sm_cvI [.int a3, .int a4] [] rfl ii_ho_outcome_52 ml_ho_152 (mf_hs_can) (mv_hs_can) (sm_kle rfl) rfl 1 rfl rfl rfl rfl (mc_hs_can (a3) (a4) w) (fun x1 w2 => ?_)
    refine sm_if_ne 61 ii_ho_outcome_55 (by decide) ?_ ?_
    · refine sm_goto 96 ii_ho_outcome_58 (by decide) ?_
      refine sm_iinc (a4 + (1 : Int32)) [some (.ref 36), some (.int a1), some (.int a2), some (.int a3), some (.int (a4 + (1 : Int32))), none] ii_ho_outcome_96 rfl rfl rfl rfl ?_
      refine sm_goto 41 ii_ho_outcome_99 (by decide) ?_
      exact hself41 (a1) (a2) (a3) ((a4 + (1 : Int32))) w2
    · refine sm_aload_n ii_ho_outcome_61 rfl ?_
      refine sm_iload_n ii_ho_outcome_62 rfl ?_
      refine sm_iload ii_ho_outcome_63 rfl ?_
      refine sm_cvV [.int a3, .int a4] [] rfl ii_ho_outcome_65 ml_ho_362 (mf_hs_push) (mv_hs_push) (sm_kle rfl) rfl 1 rfl rfl rfl rfl (mc_hs_push (a3) (a4) w2) (fun w4 => ?_)
      refine sm_aload_n ii_ho_outcome_68 rfl ?_
      refine sm_iload_n ii_ho_outcome_69 rfl ?_
      refine sm_iconst (1 : Int32) ii_ho_outcome_70 (by decide) ?_
      refine sm_isub ii_ho_outcome_71 ?_
      refine sm_csI [.ref 36, .int (a1 - (1 : Int32))] [] rfl ii_ho_outcome_72 ml_ho_278 (mf_ho_outcome (5 + dn)) (mv_ho_outcome (5 + dn)) (Nat.le_refl _) rfl rfl rfl (hrc ((a1 - (1 : Int32))) w4) (fun x5 w6 => ?_)
      refine sm_istore [some (.ref 36), some (.int a1), some (.int a2), some (.int a3), some (.int a4), some (.int x5)] ii_ho_outcome_75 rfl rfl ?_
      refine sm_aload_n ii_ho_outcome_77 rfl ?_
      refine sm_cvV [] [] rfl ii_ho_outcome_78 ml_ho_365 (mf_hs_pop) (mv_hs_pop) (sm_kle rfl) rfl 1 rfl rfl rfl rfl (mc_hs_pop  w6) (fun w8 => ?_)
      refine sm_iload ii_ho_outcome_81 rfl ?_
      refine sm_iconst (1 : Int32) ii_ho_outcome_83 (by decide) ?_
      refine sm_icmp_ne 89 ii_ho_outcome_84 (by decide) ?_ ?_
      · refine sm_iconst (0 : Int32) ii_ho_outcome_87 (by decide) ?_
        exact sm_iret ii_ho_outcome_88 rfl
      · refine sm_iload ii_ho_outcome_89 rfl ?_
        refine sm_if_eq 96 ii_ho_outcome_91 (by decide) ?_ ?_
        · refine sm_iinc (a4 + (1 : Int32)) [some (.ref 36), some (.int a1), some (.int a2), some (.int a3), some (.int (a4 + (1 : Int32))), some (.int x5)] ii_ho_outcome_96 rfl rfl rfl rfl ?_
          refine sm_goto 41 ii_ho_outcome_99 (by decide) ?_
          refine sm_msk [true, true, true, true, true, false] [some (.ref 36), some (.int a1), some (.int a2), some (.int a3), some (.int (a4 + (1 : Int32))), none] rfl ?_
          exact hself41 (a1) (a2) (a3) ((a4 + (1 : Int32))) w8
        · refine sm_iconst (0 : Int32) ii_ho_outcome_94 (by decide) ?_
          refine sm_istore_n [some (.ref 36), some (.int a1), some (.int (0 : Int32)), some (.int a3), some (.int a4), some (.int x5)] ii_ho_outcome_95 rfl rfl ?_
          refine sm_iinc (a4 + (1 : Int32)) [some (.ref 36), some (.int a1), some (.int (0 : Int32)), some (.int a3), some (.int (a4 + (1 : Int32))), some (.int x5)] ii_ho_outcome_96 rfl rfl rfl rfl ?_
          refine sm_goto 41 ii_ho_outcome_99 (by decide) ?_
          refine sm_msk [true, true, true, true, true, false] [some (.ref 36), some (.int a1), some (.int (0 : Int32)), some (.int a3), some (.int (a4 + (1 : Int32))), none] rfl ?_
          exact hself41 (a1) ((0 : Int32)) (a3) ((a4 + (1 : Int32))) w8
set_option maxHeartbeats 4000000 in
set_option maxRecDepth 100000 in
theorem ss_ho_outcome_41_f {E : Nat × (Nat → Int32)} {dn : Nat} (rc : Int32 → sm_Mem → sm_R) (hrc : ∀ (a1 : Int32) (w : sm_Mem), sm_MC (mi_ho_outcome (5 + dn)) [.ref 36, .int a1] w (rc a1 w)) (self30 : Int32 → Int32 → Int32 → sm_Mem → sm_R) (hself30 : ∀ (a1 : Int32) (a2 : Int32) (a3 : Int32) (w : sm_Mem), sm_Sim E (mi_ho_outcome (5 + dn + 1)) 30 [some (.ref 36), some (.int a1), some (.int a2), some (.int a3), none, none] [] w (self30 a1 a2 a3 w)) : ∀ (n : Nat) (a1 : Int32) (a2 : Int32) (a3 : Int32) (a4 : Int32) (w : sm_Mem), sm_Sim E (mi_ho_outcome (5 + dn + 1)) 41 [some (.ref 36), some (.int a1), some (.int a2), some (.int a3), some (.int a4), none] [] w (ff_ho_outcome_41_f rc self30 n a1 a2 a3 a4 w)
  | 0, _, _, _, _, _ => fun _ _ h => by cases h
  | n + 1, a1, a2, a3, a4, w => ss_ho_outcome_41_b rc hrc self30 hself30 _ (ss_ho_outcome_41_f rc hrc self30 hself30 n) a1 a2 a3 a4 w
set_option maxHeartbeats 4000000 in
set_option maxRecDepth 100000 in
theorem ss_ho_outcome_41 {E : Nat × (Nat → Int32)} {dn : Nat} (rc : Int32 → sm_Mem → sm_R) (hrc : ∀ (a1 : Int32) (w : sm_Mem), sm_MC (mi_ho_outcome (5 + dn)) [.ref 36, .int a1] w (rc a1 w)) (self30 : Int32 → Int32 → Int32 → sm_Mem → sm_R) (hself30 : ∀ (a1 : Int32) (a2 : Int32) (a3 : Int32) (w : sm_Mem), sm_Sim E (mi_ho_outcome (5 + dn + 1)) 30 [some (.ref 36), some (.int a1), some (.int a2), some (.int a3), none, none] [] w (self30 a1 a2 a3 w)) (a1 : Int32) (a2 : Int32) (a3 : Int32) (a4 : Int32) (w : sm_Mem) : sm_Sim E (mi_ho_outcome (5 + dn + 1)) 41 [some (.ref 36), some (.int a1), some (.int a2), some (.int a3), some (.int a4), none] [] w (ff_ho_outcome_41 rc self30 a1 a2 a3 a4 w) := ss_ho_outcome_41_f rc hrc self30 hself30 sm_N a1 a2 a3 a4 w
noncomputable def ff_ho_outcome_30_b (rc : Int32 → sm_Mem → sm_R)  (self30 : Int32 → Int32 → Int32 → sm_Mem → sm_R) (a1 : Int32) (a2 : Int32) (a3 : Int32) (w : sm_Mem) : sm_R := (if (w.1 36 0) ≤ a3 then (if a2 = (0 : Int32) then (some (.int (-9 : Int32), w)) else (some (.int (1 : Int32), w))) else ff_ho_outcome_41 rc self30 (a1) (a2) (a3) ((0 : Int32)) w)
noncomputable def ff_ho_outcome_30_f (rc : Int32 → sm_Mem → sm_R)  : Nat → Int32 → Int32 → Int32 → sm_Mem → sm_R
  | 0, _, _, _, _ => none
  | n + 1, a1, a2, a3, w => ff_ho_outcome_30_b rc  (ff_ho_outcome_30_f rc  n) a1 a2 a3 w
noncomputable def ff_ho_outcome_30 (rc : Int32 → sm_Mem → sm_R)  (a1 : Int32) (a2 : Int32) (a3 : Int32) (w : sm_Mem) : sm_R := ff_ho_outcome_30_f rc  sm_N a1 a2 a3 w
set_option maxHeartbeats 4000000 in
set_option maxRecDepth 100000 in
theorem ss_ho_outcome_30_b {E : Nat × (Nat → Int32)} {dn : Nat} (rc : Int32 → sm_Mem → sm_R) (hrc : ∀ (a1 : Int32) (w : sm_Mem), sm_MC (mi_ho_outcome (5 + dn)) [.ref 36, .int a1] w (rc a1 w))  (self30 : Int32 → Int32 → Int32 → sm_Mem → sm_R) (hself30 : ∀ (a1 : Int32) (a2 : Int32) (a3 : Int32) (w : sm_Mem), sm_Sim E (mi_ho_outcome (5 + dn + 1)) 30 [some (.ref 36), some (.int a1), some (.int a2), some (.int a3), none, none] [] w (self30 a1 a2 a3 w)) (a1 : Int32) (a2 : Int32) (a3 : Int32) (w : sm_Mem) : sm_Sim E (mi_ho_outcome (5 + dn + 1)) 30 [some (.ref 36), some (.int a1), some (.int a2), some (.int a3), none, none] [] w (ff_ho_outcome_30_b rc  self30 a1 a2 a3 w) := by
  unfold ff_ho_outcome_30_b
  refine sm_iload_n ii_ho_outcome_30 rfl ?_
  refine sm_aload_n ii_ho_outcome_31 rfl ?_
  refine sm_getI ii_ho_outcome_32 fl_ho_115 (k := 36) rfl ?_
  refine sm_icmp_ge 108 ii_ho_outcome_35 (by decide) ?_ ?_
  · refine sm_iload_n ii_ho_outcome_108 rfl ?_
    refine sm_if_eq 116 ii_ho_outcome_109 (by decide) ?_ ?_
    · refine sm_bipush (-9 : Int32) ii_ho_outcome_116 (by decide) ?_
      exact sm_iret ii_ho_outcome_118 rfl
    · refine sm_iconst (1 : Int32) ii_ho_outcome_112 (by decide) ?_
      refine sm_goto 118 ii_ho_outcome_113 (by decide) ?_
      exact sm_iret ii_ho_outcome_118 rfl
  · refine sm_iconst (0 : Int32) ii_ho_outcome_38 (by decide) ?_
    refine sm_istore [some (.ref 36), some (.int a1), some (.int a2), some (.int a3), some (.int (0 : Int32)), none] ii_ho_outcome_39 rfl rfl ?_
    exact ss_ho_outcome_41 rc hrc self30 hself30 (a1) (a2) (a3) ((0 : Int32)) w
set_option maxHeartbeats 4000000 in
set_option maxRecDepth 100000 in
theorem ss_ho_outcome_30_f {E : Nat × (Nat → Int32)} {dn : Nat} (rc : Int32 → sm_Mem → sm_R) (hrc : ∀ (a1 : Int32) (w : sm_Mem), sm_MC (mi_ho_outcome (5 + dn)) [.ref 36, .int a1] w (rc a1 w))  : ∀ (n : Nat) (a1 : Int32) (a2 : Int32) (a3 : Int32) (w : sm_Mem), sm_Sim E (mi_ho_outcome (5 + dn + 1)) 30 [some (.ref 36), some (.int a1), some (.int a2), some (.int a3), none, none] [] w (ff_ho_outcome_30_f rc  n a1 a2 a3 w)
  | 0, _, _, _, _ => fun _ _ h => by cases h
  | n + 1, a1, a2, a3, w => ss_ho_outcome_30_b rc hrc  _ (ss_ho_outcome_30_f rc hrc  n) a1 a2 a3 w
set_option maxHeartbeats 4000000 in
set_option maxRecDepth 100000 in
theorem ss_ho_outcome_30 {E : Nat × (Nat → Int32)} {dn : Nat} (rc : Int32 → sm_Mem → sm_R) (hrc : ∀ (a1 : Int32) (w : sm_Mem), sm_MC (mi_ho_outcome (5 + dn)) [.ref 36, .int a1] w (rc a1 w))  (a1 : Int32) (a2 : Int32) (a3 : Int32) (w : sm_Mem) : sm_Sim E (mi_ho_outcome (5 + dn + 1)) 30 [some (.ref 36), some (.int a1), some (.int a2), some (.int a3), none, none] [] w (ff_ho_outcome_30 rc  a1 a2 a3 w) := ss_ho_outcome_30_f rc hrc  sm_N a1 a2 a3 w
noncomputable def ff_ho_outcome_0 (rc : Int32 → sm_Mem → sm_R)  (a1 : Int32) (w : sm_Mem) : sm_R := (if (0 : Int32) < a1 then (if a1 = (1 : Int32) then (sm_cI (ff_hs_isSilenced  w) fun x9 w10 => (if x9 = (0 : Int32) then (some (.int (-9 : Int32), w10)) else (some (.int (1 : Int32), w10)))) else ff_ho_outcome_30 rc (a1) ((1 : Int32)) ((0 : Int32)) w) else (some (.int (-9 : Int32), w)))
set_option maxHeartbeats 4000000 in
set_option maxRecDepth 100000 in
theorem ss_ho_outcome_0 {E : Nat × (Nat → Int32)} {dn : Nat} (rc : Int32 → sm_Mem → sm_R) (hrc : ∀ (a1 : Int32) (w : sm_Mem), sm_MC (mi_ho_outcome (5 + dn)) [.ref 36, .int a1] w (rc a1 w))  (a1 : Int32) (w : sm_Mem) : sm_Sim E (mi_ho_outcome (5 + dn + 1)) 0 [some (.ref 36), some (.int a1), none, none, none, none] [] w (ff_ho_outcome_0 rc  a1 w) := by
  unfold ff_ho_outcome_0
  refine sm_iload_n ii_ho_outcome_0 rfl ?_
  refine sm_if_gt 7 ii_ho_outcome_1 (by decide) ?_ ?_
  · refine sm_iload_n ii_ho_outcome_7 rfl ?_
    refine sm_iconst (1 : Int32) ii_ho_outcome_8 (by decide) ?_
    refine sm_icmp_ne 26 ii_ho_outcome_9 (by decide) ?_ ?_
    · refine sm_aload_n ii_ho_outcome_12 rfl ?_
      refine sm_cvI [] [] rfl ii_ho_outcome_13 ml_ho_359 (mf_hs_isSilenced) (mv_hs_isSilenced) (sm_kle rfl) rfl 1 rfl rfl rfl rfl (mc_hs_isSilenced  w) (fun x9 w10 => ?_)
      refine sm_if_eq 23 ii_ho_outcome_16 (by decide) ?_ ?_
      · refine sm_bipush (-9 : Int32) ii_ho_outcome_23 (by decide) ?_
        exact sm_iret ii_ho_outcome_25 rfl
      · refine sm_iconst (1 : Int32) ii_ho_outcome_19 (by decide) ?_
        refine sm_goto 25 ii_ho_outcome_20 (by decide) ?_
        exact sm_iret ii_ho_outcome_25 rfl
    · refine sm_iconst (1 : Int32) ii_ho_outcome_26 (by decide) ?_
      refine sm_istore_n [some (.ref 36), some (.int a1), some (.int (1 : Int32)), none, none, none] ii_ho_outcome_27 rfl rfl ?_
      refine sm_iconst (0 : Int32) ii_ho_outcome_28 (by decide) ?_
      refine sm_istore_n [some (.ref 36), some (.int a1), some (.int (1 : Int32)), some (.int (0 : Int32)), none, none] ii_ho_outcome_29 rfl rfl ?_
      exact ss_ho_outcome_30 rc hrc (a1) ((1 : Int32)) ((0 : Int32)) w
  · refine sm_bipush (-9 : Int32) ii_ho_outcome_4 (by decide) ?_
    exact sm_iret ii_ho_outcome_6 rfl
noncomputable def ff_ho_outcome : Nat → Int32 → sm_Mem → sm_R
  | 0, _, _ => none
  | n + 1, a1, w => ff_ho_outcome_0 (ff_ho_outcome n) a1 w
set_option maxHeartbeats 4000000 in
set_option maxRecDepth 100000 in
theorem mc_ho_outcome : ∀ (n : Nat) (a1 : Int32) (w : sm_Mem), sm_MC (mi_ho_outcome (5 + n)) [.ref 36, .int a1] w (ff_ho_outcome n a1 w)
  | 0, _, _ => fun _ _ h => by cases h
  | n + 1, a1, w => sm_MC_of (0, fun _ => 0) (show plainName "HerOrders" = true by decide +kernel) (show ("HerOrders" : String) ≠ "HerOrdersLaw" by decide) rfl (Nat.le_of_ble_eq_true rfl) (ss_ho_outcome_0 (dn := n) _ (mc_ho_outcome n) a1 w)
abbrev mi_ho_struck : sm_MI := (⟨"HerOrders", "struck", "(I)I"⟩, prog_1_method_35_code, 2, (some .int), 14)
set_option maxRecDepth 100000 in
theorem mf_ho_struck : sm_MF mi_ho_struck 1 := ⟨List.mem_of_getElem? (i := 816) (by decide +kernel), List.mem_of_getElem? (i := 124) (by decide +kernel), ⟨by decide, by decide⟩, by decide +kernel⟩
set_option maxRecDepth 100000 in
theorem mv_ho_struck : sm_MFV mi_ho_struck := ⟨List.mem_of_getElem? (i := 814) (by decide +kernel), List.mem_of_getElem? (i := 815) (by decide +kernel)⟩
set_option maxRecDepth 100000 in
theorem ii_ho_struck_0 : sm_D prog_1_method_35_code 0 1 1 (.iload_n 1) := ⟨by decide +kernel, rfl⟩
set_option maxRecDepth 100000 in
theorem ii_ho_struck_1 : sm_D prog_1_method_35_code 1 3 4 (.ifCond .lt 8) := ⟨by decide +kernel, rfl⟩
set_option maxRecDepth 100000 in
theorem ii_ho_struck_4 : sm_D prog_1_method_35_code 4 1 5 (.iload_n 1) := ⟨by decide +kernel, rfl⟩
set_option maxRecDepth 100000 in
theorem ii_ho_struck_5 : sm_D prog_1_method_35_code 5 1 6 (.iconst 3) := ⟨by decide +kernel, rfl⟩
set_option maxRecDepth 100000 in
theorem ii_ho_struck_6 : sm_D prog_1_method_35_code 6 3 9 (.if_icmp .le 5) := ⟨by decide +kernel, rfl⟩
set_option maxRecDepth 100000 in
theorem ii_ho_struck_9 : sm_D prog_1_method_35_code 9 1 10 (.iconst (-1)) := ⟨by decide +kernel, rfl⟩
set_option maxRecDepth 100000 in
theorem ii_ho_struck_10 : sm_D prog_1_method_35_code 10 1 11 (.ireturn) := ⟨by decide +kernel, rfl⟩
set_option maxRecDepth 100000 in
theorem ii_ho_struck_11 : sm_D prog_1_method_35_code 11 1 12 (.aload_n 0) := ⟨by decide +kernel, rfl⟩
set_option maxRecDepth 100000 in
theorem ii_ho_struck_12 : sm_D prog_1_method_35_code 12 3 15 (.getfield 31) := ⟨by decide +kernel, rfl⟩
set_option maxRecDepth 100000 in
theorem ii_ho_struck_15 : sm_D prog_1_method_35_code 15 3 18 (.getfield 115) := ⟨by decide +kernel, rfl⟩
set_option maxRecDepth 100000 in
theorem ii_ho_struck_18 : sm_D prog_1_method_35_code 18 3 21 (.ifCond .ne 6) := ⟨by decide +kernel, rfl⟩
set_option maxRecDepth 100000 in
theorem ii_ho_struck_21 : sm_D prog_1_method_35_code 21 2 23 (.bipush (-4)) := ⟨by decide +kernel, rfl⟩
set_option maxRecDepth 100000 in
theorem ii_ho_struck_23 : sm_D prog_1_method_35_code 23 1 24 (.ireturn) := ⟨by decide +kernel, rfl⟩
set_option maxRecDepth 100000 in
theorem ii_ho_struck_24 : sm_D prog_1_method_35_code 24 1 25 (.aload_n 0) := ⟨by decide +kernel, rfl⟩
set_option maxRecDepth 100000 in
theorem ii_ho_struck_25 : sm_D prog_1_method_35_code 25 3 28 (.getfield 31) := ⟨by decide +kernel, rfl⟩
set_option maxRecDepth 100000 in
theorem ii_ho_struck_28 : sm_D prog_1_method_35_code 28 1 29 (.iload_n 1) := ⟨by decide +kernel, rfl⟩
set_option maxRecDepth 100000 in
theorem ii_ho_struck_29 : sm_D prog_1_method_35_code 29 3 32 (.invokestatic 278) := ⟨by decide +kernel, rfl⟩
set_option maxRecDepth 100000 in
theorem ii_ho_struck_32 : sm_D prog_1_method_35_code 32 1 33 (.ireturn) := ⟨by decide +kernel, rfl⟩
noncomputable def ff_ho_struck  (a1 : Int32) (w : sm_Mem) : sm_R := (if a1 < (0 : Int32) then (some (.int (-1 : Int32), w)) else (if a1 ≤ (3 : Int32) then (if (w.1 36 0) = (0 : Int32) then (some (.int (-4 : Int32), w)) else (sm_cI (ff_ho_outcome 8 (a1) w) fun x1 w2 => (some (.int x1, w2)))) else (some (.int (-1 : Int32), w))))
set_option maxHeartbeats 4000000 in
set_option maxRecDepth 100000 in
theorem ss_ho_struck_0 {E : Nat × (Nat → Int32)}  (a1 : Int32) (w : sm_Mem) : sm_Sim E (mi_ho_struck) 0 [some (.ref 0), some (.int a1)] [] w (ff_ho_struck  a1 w) := by
  unfold ff_ho_struck
  refine sm_iload_n ii_ho_struck_0 rfl ?_
  refine sm_if_lt 9 ii_ho_struck_1 (by decide) ?_ ?_
  · refine sm_iconst (-1 : Int32) ii_ho_struck_9 (by decide) ?_
    exact sm_iret ii_ho_struck_10 rfl
  · refine sm_iload_n ii_ho_struck_4 rfl ?_
    refine sm_iconst (3 : Int32) ii_ho_struck_5 (by decide) ?_
    refine sm_icmp_le 11 ii_ho_struck_6 (by decide) ?_ ?_
    · refine sm_aload_n ii_ho_struck_11 rfl ?_
      refine sm_getR 36 ii_ho_struck_12 fl_ho_31 (k := 0) rfl ?_
      refine sm_getI ii_ho_struck_15 fl_ho_115 (k := 36) rfl ?_
      refine sm_if_ne 24 ii_ho_struck_18 (by decide) ?_ ?_
      · refine sm_bipush (-4 : Int32) ii_ho_struck_21 (by decide) ?_
        exact sm_iret ii_ho_struck_23 rfl
      · refine sm_aload_n ii_ho_struck_24 rfl ?_
        refine sm_getR 36 ii_ho_struck_25 fl_ho_31 (k := 0) rfl ?_
        refine sm_iload_n ii_ho_struck_28 rfl ?_
        refine sm_csI [.ref 36, .int a1] [] rfl ii_ho_struck_29 ml_ho_278 (mf_ho_outcome 13) (mv_ho_outcome 13) (Nat.le_of_ble_eq_true rfl) rfl rfl rfl (mc_ho_outcome 8 (a1) w) (fun x1 w2 => ?_)
        exact sm_iret ii_ho_struck_32 rfl
    · refine sm_iconst (-1 : Int32) ii_ho_struck_9 (by decide) ?_
      exact sm_iret ii_ho_struck_10 rfl
set_option maxHeartbeats 4000000 in
set_option maxRecDepth 100000 in
theorem mc_ho_struck (a1 : Int32) (w : sm_Mem) : sm_MC mi_ho_struck [.ref 0, .int a1] w (ff_ho_struck a1 w) := sm_MC_of (0, fun _ => 0) (by decide +kernel) (by decide) rfl (Nat.le_of_ble_eq_true rfl) (ss_ho_struck_0 a1 w)
abbrev mi_mo_copyPart : sm_MI := (⟨"HerOrdersModel", "copyPart", "(II)V"⟩, prog_9_method_85_code, 4, none, 1)
set_option maxRecDepth 100000 in
theorem mf_mo_copyPart : sm_MF mi_mo_copyPart 2 := ⟨List.mem_of_getElem? (i := 1370) (by decide +kernel), List.mem_of_getElem? (i := 132) (by decide +kernel), ⟨by decide, by decide⟩, by decide +kernel⟩
set_option maxRecDepth 100000 in
theorem mv_mo_copyPart : sm_MFV mi_mo_copyPart := ⟨List.mem_of_getElem? (i := 1369) (by decide +kernel), List.mem_of_getElem? (i := 114) (by decide +kernel)⟩
set_option maxRecDepth 100000 in
theorem ii_mo_copyPart_0 : sm_D prog_9_method_85_code 0 1 1 (.iconst 0) := ⟨by decide +kernel, rfl⟩
set_option maxRecDepth 100000 in
theorem ii_mo_copyPart_1 : sm_D prog_9_method_85_code 1 1 2 (.istore_n 3) := ⟨by decide +kernel, rfl⟩
set_option maxRecDepth 100000 in
theorem ii_mo_copyPart_2 : sm_D prog_9_method_85_code 2 1 3 (.iload_n 3) := ⟨by decide +kernel, rfl⟩
set_option maxRecDepth 100000 in
theorem ii_mo_copyPart_3 : sm_D prog_9_method_85_code 3 2 5 (.bipush 32) := ⟨by decide +kernel, rfl⟩
set_option maxRecDepth 100000 in
theorem ii_mo_copyPart_5 : sm_D prog_9_method_85_code 5 3 8 (.if_icmp .ge 25) := ⟨by decide +kernel, rfl⟩
set_option maxRecDepth 100000 in
theorem ii_mo_copyPart_8 : sm_D prog_9_method_85_code 8 1 9 (.aload_n 0) := ⟨by decide +kernel, rfl⟩
set_option maxRecDepth 100000 in
theorem ii_mo_copyPart_9 : sm_D prog_9_method_85_code 9 3 12 (.getfield 7) := ⟨by decide +kernel, rfl⟩
set_option maxRecDepth 100000 in
theorem ii_mo_copyPart_12 : sm_D prog_9_method_85_code 12 1 13 (.iload_n 2) := ⟨by decide +kernel, rfl⟩
set_option maxRecDepth 100000 in
theorem ii_mo_copyPart_13 : sm_D prog_9_method_85_code 13 1 14 (.iload_n 3) := ⟨by decide +kernel, rfl⟩
set_option maxRecDepth 100000 in
theorem ii_mo_copyPart_14 : sm_D prog_9_method_85_code 14 1 15 (.iadd) := ⟨by decide +kernel, rfl⟩
set_option maxRecDepth 100000 in
theorem ii_mo_copyPart_15 : sm_D prog_9_method_85_code 15 1 16 (.aload_n 0) := ⟨by decide +kernel, rfl⟩
set_option maxRecDepth 100000 in
theorem ii_mo_copyPart_16 : sm_D prog_9_method_85_code 16 3 19 (.getfield 7) := ⟨by decide +kernel, rfl⟩
set_option maxRecDepth 100000 in
theorem ii_mo_copyPart_19 : sm_D prog_9_method_85_code 19 1 20 (.iload_n 1) := ⟨by decide +kernel, rfl⟩
set_option maxRecDepth 100000 in
theorem ii_mo_copyPart_20 : sm_D prog_9_method_85_code 20 1 21 (.iload_n 3) := ⟨by decide +kernel, rfl⟩
set_option maxRecDepth 100000 in
theorem ii_mo_copyPart_21 : sm_D prog_9_method_85_code 21 1 22 (.iadd) := ⟨by decide +kernel, rfl⟩
set_option maxRecDepth 100000 in
theorem ii_mo_copyPart_22 : sm_D prog_9_method_85_code 22 1 23 (.iaload) := ⟨by decide +kernel, rfl⟩
set_option maxRecDepth 100000 in
theorem ii_mo_copyPart_23 : sm_D prog_9_method_85_code 23 1 24 (.iastore) := ⟨by decide +kernel, rfl⟩
set_option maxRecDepth 100000 in
theorem ii_mo_copyPart_24 : sm_D prog_9_method_85_code 24 3 27 (.iinc 3 1) := ⟨by decide +kernel, rfl⟩
set_option maxRecDepth 100000 in
theorem ii_mo_copyPart_27 : sm_D prog_9_method_85_code 27 3 30 (.goto (-25)) := ⟨by decide +kernel, rfl⟩
set_option maxRecDepth 100000 in
theorem ii_mo_copyPart_30 : sm_D prog_9_method_85_code 30 1 31 (.return_) := ⟨by decide +kernel, rfl⟩
noncomputable def ff_mo_copyPart_2_b  (self2 : Int32 → Int32 → Int32 → sm_Mem → sm_R) (a1 : Int32) (a2 : Int32) (a3 : Int32) (w : sm_Mem) : sm_R := (if (32 : Int32) ≤ a3 then (some (.null, w)) else (Option.bind (sm_rd w 63 5184 (a1 + a3)) fun x1 => (Option.bind (sm_wr w 63 5184 (a2 + a3) x1) fun w2 => self2 (a1) (a2) ((a3 + (1 : Int32))) w2)))
noncomputable def ff_mo_copyPart_2_f  : Nat → Int32 → Int32 → Int32 → sm_Mem → sm_R
  | 0, _, _, _, _ => none
  | n + 1, a1, a2, a3, w => ff_mo_copyPart_2_b  (ff_mo_copyPart_2_f  n) a1 a2 a3 w
noncomputable def ff_mo_copyPart_2  (a1 : Int32) (a2 : Int32) (a3 : Int32) (w : sm_Mem) : sm_R := ff_mo_copyPart_2_f  sm_N a1 a2 a3 w
set_option maxHeartbeats 4000000 in
set_option maxRecDepth 100000 in
theorem ss_mo_copyPart_2_b {E : Nat × (Nat → Int32)}  (self2 : Int32 → Int32 → Int32 → sm_Mem → sm_R) (hself2 : ∀ (a1 : Int32) (a2 : Int32) (a3 : Int32) (w : sm_Mem), sm_Sim E (mi_mo_copyPart) 2 [some (.ref 62), some (.int a1), some (.int a2), some (.int a3)] [] w (self2 a1 a2 a3 w)) (a1 : Int32) (a2 : Int32) (a3 : Int32) (w : sm_Mem) : sm_Sim E (mi_mo_copyPart) 2 [some (.ref 62), some (.int a1), some (.int a2), some (.int a3)] [] w (ff_mo_copyPart_2_b  self2 a1 a2 a3 w) := by
  unfold ff_mo_copyPart_2_b
  refine sm_iload_n ii_mo_copyPart_2 rfl ?_
  refine sm_bipush (32 : Int32) ii_mo_copyPart_3 (by decide) ?_
  refine sm_icmp_ge 30 ii_mo_copyPart_5 (by decide) ?_ ?_
  · exact sm_vret ii_mo_copyPart_30 rfl
  · refine sm_aload_n ii_mo_copyPart_8 rfl ?_
    refine sm_getR 63 ii_mo_copyPart_9 fl_mo_7 (k := 62) rfl ?_
    refine sm_iload_n ii_mo_copyPart_12 rfl ?_
    refine sm_iload_n ii_mo_copyPart_13 rfl ?_
    refine sm_iadd ii_mo_copyPart_14 ?_
    refine sm_aload_n ii_mo_copyPart_15 rfl ?_
    refine sm_getR 63 ii_mo_copyPart_16 fl_mo_7 (k := 62) rfl ?_
    refine sm_iload_n ii_mo_copyPart_19 rfl ?_
    refine sm_iload_n ii_mo_copyPart_20 rfl ?_
    refine sm_iadd ii_mo_copyPart_21 ?_
    refine sm_iald ii_mo_copyPart_22 (k := 63) rfl (fun x1 => ?_)
    refine sm_iast ii_mo_copyPart_23 (k := 63) rfl (fun w2 => ?_)
    refine sm_iinc (a3 + (1 : Int32)) [some (.ref 62), some (.int a1), some (.int a2), some (.int (a3 + (1 : Int32)))] ii_mo_copyPart_24 rfl rfl rfl rfl ?_
    refine sm_goto 2 ii_mo_copyPart_27 (by decide) ?_
    exact hself2 (a1) (a2) ((a3 + (1 : Int32))) w2
set_option maxHeartbeats 4000000 in
set_option maxRecDepth 100000 in
theorem ss_mo_copyPart_2_f {E : Nat × (Nat → Int32)}  : ∀ (n : Nat) (a1 : Int32) (a2 : Int32) (a3 : Int32) (w : sm_Mem), sm_Sim E (mi_mo_copyPart) 2 [some (.ref 62), some (.int a1), some (.int a2), some (.int a3)] [] w (ff_mo_copyPart_2_f  n a1 a2 a3 w)
  | 0, _, _, _, _ => fun _ _ h => by cases h
  | n + 1, a1, a2, a3, w => ss_mo_copyPart_2_b  _ (ss_mo_copyPart_2_f  n) a1 a2 a3 w
set_option maxHeartbeats 4000000 in
set_option maxRecDepth 100000 in
theorem ss_mo_copyPart_2 {E : Nat × (Nat → Int32)}  (a1 : Int32) (a2 : Int32) (a3 : Int32) (w : sm_Mem) : sm_Sim E (mi_mo_copyPart) 2 [some (.ref 62), some (.int a1), some (.int a2), some (.int a3)] [] w (ff_mo_copyPart_2  a1 a2 a3 w) := ss_mo_copyPart_2_f  sm_N a1 a2 a3 w
noncomputable def ff_mo_copyPart  (a1 : Int32) (a2 : Int32) (w : sm_Mem) : sm_R := ff_mo_copyPart_2 (a1) (a2) ((0 : Int32)) w
set_option maxHeartbeats 4000000 in
set_option maxRecDepth 100000 in
theorem ss_mo_copyPart_0 {E : Nat × (Nat → Int32)}  (a1 : Int32) (a2 : Int32) (w : sm_Mem) : sm_Sim E (mi_mo_copyPart) 0 [some (.ref 62), some (.int a1), some (.int a2), none] [] w (ff_mo_copyPart  a1 a2 w) := by
  unfold ff_mo_copyPart
  refine sm_iconst (0 : Int32) ii_mo_copyPart_0 (by decide) ?_
  refine sm_istore_n [some (.ref 62), some (.int a1), some (.int a2), some (.int (0 : Int32))] ii_mo_copyPart_1 rfl rfl ?_
  exact ss_mo_copyPart_2 (a1) (a2) ((0 : Int32)) w
set_option maxHeartbeats 4000000 in
set_option maxRecDepth 100000 in
theorem mc_mo_copyPart (a1 : Int32) (a2 : Int32) (w : sm_Mem) : sm_MC mi_mo_copyPart [.ref 62, .int a1, .int a2] w (ff_mo_copyPart a1 a2 w) := sm_MC_of (0, fun _ => 0) (by decide +kernel) (by decide) rfl (Nat.le_of_ble_eq_true rfl) (ss_mo_copyPart_0 a1 a2 w)
abbrev mi_mo_moves : sm_MI := (⟨"HerOrdersModel", "moves", "(III)Z"⟩, prog_9_method_87_code, 4, (some .boolean), 4)
set_option maxRecDepth 100000 in
theorem mf_mo_moves : sm_MF mi_mo_moves 3 := ⟨List.mem_of_getElem? (i := 1366) (by decide +kernel), List.mem_of_getElem? (i := 132) (by decide +kernel), ⟨by decide, by decide⟩, by decide +kernel⟩
set_option maxRecDepth 100000 in
theorem mv_mo_moves : sm_MFV mi_mo_moves := ⟨List.mem_of_getElem? (i := 1365) (by decide +kernel), List.mem_of_getElem? (i := 113) (by decide +kernel)⟩
set_option maxRecDepth 100000 in
theorem ii_mo_moves_0 : sm_D prog_9_method_87_code 0 1 1 (.aload_n 0) := ⟨by decide +kernel, rfl⟩
set_option maxRecDepth 100000 in
theorem ii_mo_moves_1 : sm_D prog_9_method_87_code 1 1 2 (.iload_n 1) := ⟨by decide +kernel, rfl⟩
set_option maxRecDepth 100000 in
theorem ii_mo_moves_2 : sm_D prog_9_method_87_code 2 1 3 (.iload_n 2) := ⟨by decide +kernel, rfl⟩
set_option maxRecDepth 100000 in
theorem ii_mo_moves_3 : sm_D prog_9_method_87_code 3 2 5 (.bipush 6) := ⟨by decide +kernel, rfl⟩
set_option maxRecDepth 100000 in
theorem ii_mo_moves_5 : sm_D prog_9_method_87_code 5 1 6 (.idiv) := ⟨by decide +kernel, rfl⟩
set_option maxRecDepth 100000 in
theorem ii_mo_moves_6 : sm_D prog_9_method_87_code 6 1 7 (.iload_n 2) := ⟨by decide +kernel, rfl⟩
set_option maxRecDepth 100000 in
theorem ii_mo_moves_7 : sm_D prog_9_method_87_code 7 2 9 (.bipush 6) := ⟨by decide +kernel, rfl⟩
set_option maxRecDepth 100000 in
theorem ii_mo_moves_9 : sm_D prog_9_method_87_code 9 1 10 (.irem) := ⟨by decide +kernel, rfl⟩
set_option maxRecDepth 100000 in
theorem ii_mo_moves_10 : sm_D prog_9_method_87_code 10 3 13 (.invokevirtual 157) := ⟨by decide +kernel, rfl⟩
set_option maxRecDepth 100000 in
theorem ii_mo_moves_13 : sm_D prog_9_method_87_code 13 3 16 (.ifCond .ne 5) := ⟨by decide +kernel, rfl⟩
set_option maxRecDepth 100000 in
theorem ii_mo_moves_16 : sm_D prog_9_method_87_code 16 1 17 (.iconst 0) := ⟨by decide +kernel, rfl⟩
set_option maxRecDepth 100000 in
theorem ii_mo_moves_17 : sm_D prog_9_method_87_code 17 1 18 (.ireturn) := ⟨by decide +kernel, rfl⟩
set_option maxRecDepth 100000 in
theorem ii_mo_moves_18 : sm_D prog_9_method_87_code 18 1 19 (.aload_n 0) := ⟨by decide +kernel, rfl⟩
set_option maxRecDepth 100000 in
theorem ii_mo_moves_19 : sm_D prog_9_method_87_code 19 1 20 (.iload_n 1) := ⟨by decide +kernel, rfl⟩
set_option maxRecDepth 100000 in
theorem ii_mo_moves_20 : sm_D prog_9_method_87_code 20 1 21 (.iload_n 3) := ⟨by decide +kernel, rfl⟩
set_option maxRecDepth 100000 in
theorem ii_mo_moves_21 : sm_D prog_9_method_87_code 21 3 24 (.invokevirtual 269) := ⟨by decide +kernel, rfl⟩
set_option maxRecDepth 100000 in
theorem ii_mo_moves_24 : sm_D prog_9_method_87_code 24 1 25 (.aload_n 0) := ⟨by decide +kernel, rfl⟩
set_option maxRecDepth 100000 in
theorem ii_mo_moves_25 : sm_D prog_9_method_87_code 25 1 26 (.iload_n 3) := ⟨by decide +kernel, rfl⟩
set_option maxRecDepth 100000 in
theorem ii_mo_moves_26 : sm_D prog_9_method_87_code 26 1 27 (.iload_n 2) := ⟨by decide +kernel, rfl⟩
set_option maxRecDepth 100000 in
theorem ii_mo_moves_27 : sm_D prog_9_method_87_code 27 2 29 (.bipush 6) := ⟨by decide +kernel, rfl⟩
set_option maxRecDepth 100000 in
theorem ii_mo_moves_29 : sm_D prog_9_method_87_code 29 1 30 (.idiv) := ⟨by decide +kernel, rfl⟩
set_option maxRecDepth 100000 in
theorem ii_mo_moves_30 : sm_D prog_9_method_87_code 30 1 31 (.iload_n 2) := ⟨by decide +kernel, rfl⟩
set_option maxRecDepth 100000 in
theorem ii_mo_moves_31 : sm_D prog_9_method_87_code 31 2 33 (.bipush 6) := ⟨by decide +kernel, rfl⟩
set_option maxRecDepth 100000 in
theorem ii_mo_moves_33 : sm_D prog_9_method_87_code 33 1 34 (.irem) := ⟨by decide +kernel, rfl⟩
set_option maxRecDepth 100000 in
theorem ii_mo_moves_34 : sm_D prog_9_method_87_code 34 3 37 (.invokevirtual 190) := ⟨by decide +kernel, rfl⟩
set_option maxRecDepth 100000 in
theorem ii_mo_moves_37 : sm_D prog_9_method_87_code 37 1 38 (.iconst 1) := ⟨by decide +kernel, rfl⟩
set_option maxRecDepth 100000 in
theorem ii_mo_moves_38 : sm_D prog_9_method_87_code 38 1 39 (.ireturn) := ⟨by decide +kernel, rfl⟩
noncomputable def ff_mo_moves  (a1 : Int32) (a2 : Int32) (a3 : Int32) (w : sm_Mem) : sm_R := (if (6 : Int32) = (0 : Int32) then none else (if (6 : Int32) = (0 : Int32) then none else (sm_cI (ff_mo_mayNext (a1) ((a2 / (6 : Int32))) ((a2 - a2 / (6 : Int32) * (6 : Int32))) w) fun x3 w4 => (if x3 = (0 : Int32) then (some (.int (0 : Int32), w4)) else (sm_cV (ff_mo_copyPart (a1) (a3) w4) fun w6 => (if (6 : Int32) = (0 : Int32) then none else (if (6 : Int32) = (0 : Int32) then none else (sm_cV (ff_mo_says (a3) ((a2 / (6 : Int32))) ((a2 - a2 / (6 : Int32) * (6 : Int32))) w6) fun w10 => (some (.int (1 : Int32), w10))))))))))
set_option maxHeartbeats 4000000 in
set_option maxRecDepth 100000 in
theorem ss_mo_moves_0 {E : Nat × (Nat → Int32)}  (a1 : Int32) (a2 : Int32) (a3 : Int32) (w : sm_Mem) : sm_Sim E (mi_mo_moves) 0 [some (.ref 62), some (.int a1), some (.int a2), some (.int a3)] [] w (ff_mo_moves  a1 a2 a3 w) := by
  unfold ff_mo_moves
  refine sm_aload_n ii_mo_moves_0 rfl ?_
  refine sm_iload_n ii_mo_moves_1 rfl ?_
  refine sm_iload_n ii_mo_moves_2 rfl ?_
  refine sm_bipush (6 : Int32) ii_mo_moves_3 (by decide) ?_
  refine sm_idiv ii_mo_moves_5 ?_
  refine sm_iload_n ii_mo_moves_6 rfl ?_
  refine sm_bipush (6 : Int32) ii_mo_moves_7 (by decide) ?_
  refine sm_irem ii_mo_moves_9 ?_
  refine sm_cvI [.int a1, .int (a2 / (6 : Int32)), .int (a2 - a2 / (6 : Int32) * (6 : Int32))] [] rfl ii_mo_moves_10 ml_mo_157 (mf_mo_mayNext) (mv_mo_mayNext) (Nat.le_of_ble_eq_true rfl) rfl 7 rfl rfl rfl rfl (mc_mo_mayNext (a1) ((a2 / (6 : Int32))) ((a2 - a2 / (6 : Int32) * (6 : Int32))) w) (fun x3 w4 => ?_)
  refine sm_if_ne 18 ii_mo_moves_13 (by decide) ?_ ?_
  · refine sm_iconst (0 : Int32) ii_mo_moves_16 (by decide) ?_
    exact sm_zret1 ii_mo_moves_17 rfl (by decide)
  · refine sm_aload_n ii_mo_moves_18 rfl ?_
    refine sm_iload_n ii_mo_moves_19 rfl ?_
    refine sm_iload_n ii_mo_moves_20 rfl ?_
    refine sm_cvV [.int a1, .int a3] [] rfl ii_mo_moves_21 ml_mo_269 (mf_mo_copyPart) (mv_mo_copyPart) (Nat.le_of_ble_eq_true rfl) rfl 7 rfl rfl rfl rfl (mc_mo_copyPart (a1) (a3) w4) (fun w6 => ?_)
    refine sm_aload_n ii_mo_moves_24 rfl ?_
    refine sm_iload_n ii_mo_moves_25 rfl ?_
    refine sm_iload_n ii_mo_moves_26 rfl ?_
    refine sm_bipush (6 : Int32) ii_mo_moves_27 (by decide) ?_
    refine sm_idiv ii_mo_moves_29 ?_
    refine sm_iload_n ii_mo_moves_30 rfl ?_
    refine sm_bipush (6 : Int32) ii_mo_moves_31 (by decide) ?_
    refine sm_irem ii_mo_moves_33 ?_
    refine sm_cvV [.int a3, .int (a2 / (6 : Int32)), .int (a2 - a2 / (6 : Int32) * (6 : Int32))] [] rfl ii_mo_moves_34 ml_mo_190 (mf_mo_says) (mv_mo_says) (Nat.le_of_ble_eq_true rfl) rfl 7 rfl rfl rfl rfl (mc_mo_says (a3) ((a2 / (6 : Int32))) ((a2 - a2 / (6 : Int32) * (6 : Int32))) w6) (fun w10 => ?_)
    refine sm_iconst (1 : Int32) ii_mo_moves_37 (by decide) ?_
    exact sm_zret1 ii_mo_moves_38 rfl (by decide)
set_option maxHeartbeats 4000000 in
set_option maxRecDepth 100000 in
theorem mc_mo_moves (a1 : Int32) (a2 : Int32) (a3 : Int32) (w : sm_Mem) : sm_MC mi_mo_moves [.ref 62, .int a1, .int a2, .int a3] w (ff_mo_moves a1 a2 a3 w) := sm_MC_of (0, fun _ => 0) (by decide +kernel) (by decide) rfl (Nat.le_of_ble_eq_true rfl) (ss_mo_moves_0 a1 a2 a3 w)
abbrev mi_mo_isDumb : sm_MI := (⟨"HerOrdersModel", "isDumb", "(I)Z"⟩, prog_9_method_86_code, 4, (some .boolean), 5)
set_option maxRecDepth 100000 in
theorem mf_mo_isDumb : sm_MF mi_mo_isDumb 1 := ⟨List.mem_of_getElem? (i := 1378) (by decide +kernel), List.mem_of_getElem? (i := 132) (by decide +kernel), ⟨by decide, by decide⟩, by decide +kernel⟩
set_option maxRecDepth 100000 in
theorem mv_mo_isDumb : sm_MFV mi_mo_isDumb := ⟨List.mem_of_getElem? (i := 1377) (by decide +kernel), List.mem_of_getElem? (i := 116) (by decide +kernel)⟩
set_option maxRecDepth 100000 in
theorem ii_mo_isDumb_0 : sm_D prog_9_method_86_code 0 1 1 (.iconst 1) := ⟨by decide +kernel, rfl⟩
set_option maxRecDepth 100000 in
theorem ii_mo_isDumb_1 : sm_D prog_9_method_86_code 1 1 2 (.istore_n 2) := ⟨by decide +kernel, rfl⟩
set_option maxRecDepth 100000 in
theorem ii_mo_isDumb_2 : sm_D prog_9_method_86_code 2 1 3 (.iconst 0) := ⟨by decide +kernel, rfl⟩
set_option maxRecDepth 100000 in
theorem ii_mo_isDumb_3 : sm_D prog_9_method_86_code 3 1 4 (.istore_n 3) := ⟨by decide +kernel, rfl⟩
set_option maxRecDepth 100000 in
theorem ii_mo_isDumb_4 : sm_D prog_9_method_86_code 4 1 5 (.iload_n 3) := ⟨by decide +kernel, rfl⟩
set_option maxRecDepth 100000 in
theorem ii_mo_isDumb_5 : sm_D prog_9_method_86_code 5 1 6 (.aload_n 0) := ⟨by decide +kernel, rfl⟩
set_option maxRecDepth 100000 in
theorem ii_mo_isDumb_6 : sm_D prog_9_method_86_code 6 3 9 (.getfield 135) := ⟨by decide +kernel, rfl⟩
set_option maxRecDepth 100000 in
theorem ii_mo_isDumb_9 : sm_D prog_9_method_86_code 9 3 12 (.if_icmp .ge 28) := ⟨by decide +kernel, rfl⟩
set_option maxRecDepth 100000 in
theorem ii_mo_isDumb_12 : sm_D prog_9_method_86_code 12 1 13 (.iload_n 2) := ⟨by decide +kernel, rfl⟩
set_option maxRecDepth 100000 in
theorem ii_mo_isDumb_13 : sm_D prog_9_method_86_code 13 3 16 (.ifCond .eq 16) := ⟨by decide +kernel, rfl⟩
set_option maxRecDepth 100000 in
theorem ii_mo_isDumb_16 : sm_D prog_9_method_86_code 16 1 17 (.aload_n 0) := ⟨by decide +kernel, rfl⟩
set_option maxRecDepth 100000 in
theorem ii_mo_isDumb_17 : sm_D prog_9_method_86_code 17 1 18 (.iload_n 1) := ⟨by decide +kernel, rfl⟩
set_option maxRecDepth 100000 in
theorem ii_mo_isDumb_18 : sm_D prog_9_method_86_code 18 1 19 (.iload_n 3) := ⟨by decide +kernel, rfl⟩
set_option maxRecDepth 100000 in
theorem ii_mo_isDumb_19 : sm_D prog_9_method_86_code 19 3 22 (.invokevirtual 166) := ⟨by decide +kernel, rfl⟩
set_option maxRecDepth 100000 in
theorem ii_mo_isDumb_22 : sm_D prog_9_method_86_code 22 3 25 (.ifCond .ne 7) := ⟨by decide +kernel, rfl⟩
set_option maxRecDepth 100000 in
theorem ii_mo_isDumb_25 : sm_D prog_9_method_86_code 25 1 26 (.iconst 1) := ⟨by decide +kernel, rfl⟩
set_option maxRecDepth 100000 in
theorem ii_mo_isDumb_26 : sm_D prog_9_method_86_code 26 3 29 (.goto 4) := ⟨by decide +kernel, rfl⟩
set_option maxRecDepth 100000 in
theorem ii_mo_isDumb_29 : sm_D prog_9_method_86_code 29 1 30 (.iconst 0) := ⟨by decide +kernel, rfl⟩
set_option maxRecDepth 100000 in
theorem ii_mo_isDumb_30 : sm_D prog_9_method_86_code 30 1 31 (.istore_n 2) := ⟨by decide +kernel, rfl⟩
set_option maxRecDepth 100000 in
theorem ii_mo_isDumb_31 : sm_D prog_9_method_86_code 31 3 34 (.iinc 3 1) := ⟨by decide +kernel, rfl⟩
set_option maxRecDepth 100000 in
theorem ii_mo_isDumb_34 : sm_D prog_9_method_86_code 34 3 37 (.goto (-30)) := ⟨by decide +kernel, rfl⟩
set_option maxRecDepth 100000 in
theorem ii_mo_isDumb_37 : sm_D prog_9_method_86_code 37 1 38 (.iload_n 2) := ⟨by decide +kernel, rfl⟩
set_option maxRecDepth 100000 in
theorem ii_mo_isDumb_38 : sm_D prog_9_method_86_code 38 1 39 (.ireturn) := ⟨by decide +kernel, rfl⟩
noncomputable def ff_mo_isDumb_29 (self4 : Int32 → Int32 → Int32 → sm_Mem → sm_R) (a1 : Int32) (a3 : Int32) (w : sm_Mem) : sm_R := self4 (a1) ((0 : Int32)) ((a3 + (1 : Int32))) w
set_option maxHeartbeats 4000000 in
set_option maxRecDepth 100000 in
theorem ss_mo_isDumb_29 {E : Nat × (Nat → Int32)} (self4 : Int32 → Int32 → Int32 → sm_Mem → sm_R) (hself4 : ∀ (a1 : Int32) (a2 : Int32) (a3 : Int32) (w : sm_Mem), sm_Sim E (mi_mo_isDumb) 4 [some (.ref 62), some (.int a1), some (.int a2), some (.int a3)] [] w (self4 a1 a2 a3 w)) (a1 : Int32) (a3 : Int32) (w : sm_Mem) : sm_Sim E (mi_mo_isDumb) 29 [some (.ref 62), some (.int a1), none, some (.int a3)] [] w (ff_mo_isDumb_29 self4 a1 a3 w) := by
  unfold ff_mo_isDumb_29
  refine sm_iconst (0 : Int32) ii_mo_isDumb_29 (by decide) ?_
  refine sm_istore_n [some (.ref 62), some (.int a1), some (.int (0 : Int32)), some (.int a3)] ii_mo_isDumb_30 rfl rfl ?_
  refine sm_iinc (a3 + (1 : Int32)) [some (.ref 62), some (.int a1), some (.int (0 : Int32)), some (.int (a3 + (1 : Int32)))] ii_mo_isDumb_31 rfl rfl rfl rfl ?_
  refine sm_goto 4 ii_mo_isDumb_34 (by decide) ?_
  exact hself4 (a1) ((0 : Int32)) ((a3 + (1 : Int32))) w
noncomputable def ff_mo_isDumb_4_b  (self4 : Int32 → Int32 → Int32 → sm_Mem → sm_R) (a1 : Int32) (a2 : Int32) (a3 : Int32) (w : sm_Mem) : sm_R := (if (w.1 62 1) ≤ a3 then (sm_rz a2 w) else (if a2 = (0 : Int32) then ff_mo_isDumb_29 self4 (a1) (a3) w else (sm_cI (ff_mo_whatCan (a1) (a3) w) fun x1 w2 => (if x1 = (0 : Int32) then self4 (a1) ((1 : Int32)) ((a3 + (1 : Int32))) w2 else ff_mo_isDumb_29 self4 (a1) (a3) w2))))
noncomputable def ff_mo_isDumb_4_f  : Nat → Int32 → Int32 → Int32 → sm_Mem → sm_R
  | 0, _, _, _, _ => none
  | n + 1, a1, a2, a3, w => ff_mo_isDumb_4_b  (ff_mo_isDumb_4_f  n) a1 a2 a3 w
noncomputable def ff_mo_isDumb_4  (a1 : Int32) (a2 : Int32) (a3 : Int32) (w : sm_Mem) : sm_R := ff_mo_isDumb_4_f  sm_N a1 a2 a3 w
set_option maxHeartbeats 4000000 in
set_option maxRecDepth 100000 in
theorem ss_mo_isDumb_4_b {E : Nat × (Nat → Int32)}  (self4 : Int32 → Int32 → Int32 → sm_Mem → sm_R) (hself4 : ∀ (a1 : Int32) (a2 : Int32) (a3 : Int32) (w : sm_Mem), sm_Sim E (mi_mo_isDumb) 4 [some (.ref 62), some (.int a1), some (.int a2), some (.int a3)] [] w (self4 a1 a2 a3 w)) (a1 : Int32) (a2 : Int32) (a3 : Int32) (w : sm_Mem) : sm_Sim E (mi_mo_isDumb) 4 [some (.ref 62), some (.int a1), some (.int a2), some (.int a3)] [] w (ff_mo_isDumb_4_b  self4 a1 a2 a3 w) := by
  unfold ff_mo_isDumb_4_b
  refine sm_iload_n ii_mo_isDumb_4 rfl ?_
  refine sm_aload_n ii_mo_isDumb_5 rfl ?_
  refine sm_getI ii_mo_isDumb_6 fl_mo_135 (k := 62) rfl ?_
  refine sm_icmp_ge 37 ii_mo_isDumb_9 (by decide) ?_ ?_
  · refine sm_iload_n ii_mo_isDumb_37 rfl ?_
    exact sm_zret ii_mo_isDumb_38 rfl
  · refine sm_iload_n ii_mo_isDumb_12 rfl ?_
    refine sm_if_eq 29 ii_mo_isDumb_13 (by decide) ?_ ?_
    · refine sm_msk [true, true, false, true] [some (.ref 62), some (.int a1), none, some (.int a3)] rfl ?_
      exact ss_mo_isDumb_29 self4 hself4 (a1) (a3) w
    · refine sm_aload_n ii_mo_isDumb_16 rfl ?_
      refine sm_iload_n ii_mo_isDumb_17 rfl ?_
      refine sm_iload_n ii_mo_isDumb_18 rfl ?_
      refine sm_cvI [.int a1, .int a3] [] rfl ii_mo_isDumb_19 ml_mo_166 (mf_mo_whatCan) (mv_mo_whatCan) (Nat.le_of_ble_eq_true rfl) rfl 7 rfl rfl rfl rfl (mc_mo_whatCan (a1) (a3) w) (fun x1 w2 => ?_)
      refine sm_if_ne 29 ii_mo_isDumb_22 (by decide) ?_ ?_
      · refine sm_iconst (1 : Int32) ii_mo_isDumb_25 (by decide) ?_
        refine sm_goto 30 ii_mo_isDumb_26 (by decide) ?_
        refine sm_istore_n [some (.ref 62), some (.int a1), some (.int (1 : Int32)), some (.int a3)] ii_mo_isDumb_30 rfl rfl ?_
        refine sm_iinc (a3 + (1 : Int32)) [some (.ref 62), some (.int a1), some (.int (1 : Int32)), some (.int (a3 + (1 : Int32)))] ii_mo_isDumb_31 rfl rfl rfl rfl ?_
        refine sm_goto 4 ii_mo_isDumb_34 (by decide) ?_
        exact hself4 (a1) ((1 : Int32)) ((a3 + (1 : Int32))) w2
      · refine sm_msk [true, true, false, true] [some (.ref 62), some (.int a1), none, some (.int a3)] rfl ?_
        exact ss_mo_isDumb_29 self4 hself4 (a1) (a3) w2
set_option maxHeartbeats 4000000 in
set_option maxRecDepth 100000 in
theorem ss_mo_isDumb_4_f {E : Nat × (Nat → Int32)}  : ∀ (n : Nat) (a1 : Int32) (a2 : Int32) (a3 : Int32) (w : sm_Mem), sm_Sim E (mi_mo_isDumb) 4 [some (.ref 62), some (.int a1), some (.int a2), some (.int a3)] [] w (ff_mo_isDumb_4_f  n a1 a2 a3 w)
  | 0, _, _, _, _ => fun _ _ h => by cases h
  | n + 1, a1, a2, a3, w => ss_mo_isDumb_4_b  _ (ss_mo_isDumb_4_f  n) a1 a2 a3 w
set_option maxHeartbeats 4000000 in
set_option maxRecDepth 100000 in
theorem ss_mo_isDumb_4 {E : Nat × (Nat → Int32)}  (a1 : Int32) (a2 : Int32) (a3 : Int32) (w : sm_Mem) : sm_Sim E (mi_mo_isDumb) 4 [some (.ref 62), some (.int a1), some (.int a2), some (.int a3)] [] w (ff_mo_isDumb_4  a1 a2 a3 w) := ss_mo_isDumb_4_f  sm_N a1 a2 a3 w
noncomputable def ff_mo_isDumb  (a1 : Int32) (w : sm_Mem) : sm_R := ff_mo_isDumb_4 (a1) ((1 : Int32)) ((0 : Int32)) w
set_option maxHeartbeats 4000000 in
set_option maxRecDepth 100000 in
theorem ss_mo_isDumb_0 {E : Nat × (Nat → Int32)}  (a1 : Int32) (w : sm_Mem) : sm_Sim E (mi_mo_isDumb) 0 [some (.ref 62), some (.int a1), none, none] [] w (ff_mo_isDumb  a1 w) := by
  unfold ff_mo_isDumb
  refine sm_iconst (1 : Int32) ii_mo_isDumb_0 (by decide) ?_
  refine sm_istore_n [some (.ref 62), some (.int a1), some (.int (1 : Int32)), none] ii_mo_isDumb_1 rfl rfl ?_
  refine sm_iconst (0 : Int32) ii_mo_isDumb_2 (by decide) ?_
  refine sm_istore_n [some (.ref 62), some (.int a1), some (.int (1 : Int32)), some (.int (0 : Int32))] ii_mo_isDumb_3 rfl rfl ?_
  exact ss_mo_isDumb_4 (a1) ((1 : Int32)) ((0 : Int32)) w
set_option maxHeartbeats 4000000 in
set_option maxRecDepth 100000 in
theorem mc_mo_isDumb (a1 : Int32) (w : sm_Mem) : sm_MC mi_mo_isDumb [.ref 62, .int a1] w (ff_mo_isDumb a1 w) := sm_MC_of (0, fun _ => 0) (by decide +kernel) (by decide) rfl (Nat.le_of_ble_eq_true rfl) (ss_mo_isDumb_0 a1 w)
abbrev mi_mo_struckByTwo : sm_MI := (⟨"HerOrdersModel", "struckByTwo", "(II)I"⟩, prog_9_method_88_code, 4, (some .int), 6)
set_option maxRecDepth 100000 in
theorem mf_mo_struckByTwo : sm_MF mi_mo_struckByTwo 2 := ⟨List.mem_of_getElem? (i := 1374) (by decide +kernel), List.mem_of_getElem? (i := 132) (by decide +kernel), ⟨by decide, by decide⟩, by decide +kernel⟩
set_option maxRecDepth 100000 in
theorem mv_mo_struckByTwo : sm_MFV mi_mo_struckByTwo := ⟨List.mem_of_getElem? (i := 1373) (by decide +kernel), List.mem_of_getElem? (i := 115) (by decide +kernel)⟩
set_option maxRecDepth 100000 in
theorem ii_mo_struckByTwo_0 : sm_D prog_9_method_88_code 0 1 1 (.aload_n 0) := ⟨by decide +kernel, rfl⟩
set_option maxRecDepth 100000 in
theorem ii_mo_struckByTwo_1 : sm_D prog_9_method_88_code 1 1 2 (.iload_n 1) := ⟨by decide +kernel, rfl⟩
set_option maxRecDepth 100000 in
theorem ii_mo_struckByTwo_2 : sm_D prog_9_method_88_code 2 3 5 (.invokevirtual 272) := ⟨by decide +kernel, rfl⟩
set_option maxRecDepth 100000 in
theorem ii_mo_struckByTwo_5 : sm_D prog_9_method_88_code 5 3 8 (.ifCond .eq 5) := ⟨by decide +kernel, rfl⟩
set_option maxRecDepth 100000 in
theorem ii_mo_struckByTwo_8 : sm_D prog_9_method_88_code 8 1 9 (.iconst 1) := ⟨by decide +kernel, rfl⟩
set_option maxRecDepth 100000 in
theorem ii_mo_struckByTwo_9 : sm_D prog_9_method_88_code 9 1 10 (.ireturn) := ⟨by decide +kernel, rfl⟩
set_option maxRecDepth 100000 in
theorem ii_mo_struckByTwo_10 : sm_D prog_9_method_88_code 10 1 11 (.iconst 0) := ⟨by decide +kernel, rfl⟩
set_option maxRecDepth 100000 in
theorem ii_mo_struckByTwo_11 : sm_D prog_9_method_88_code 11 1 12 (.istore_n 3) := ⟨by decide +kernel, rfl⟩
set_option maxRecDepth 100000 in
theorem ii_mo_struckByTwo_12 : sm_D prog_9_method_88_code 12 1 13 (.iload_n 3) := ⟨by decide +kernel, rfl⟩
set_option maxRecDepth 100000 in
theorem ii_mo_struckByTwo_13 : sm_D prog_9_method_88_code 13 2 15 (.bipush 6) := ⟨by decide +kernel, rfl⟩
set_option maxRecDepth 100000 in
theorem ii_mo_struckByTwo_15 : sm_D prog_9_method_88_code 15 1 16 (.aload_n 0) := ⟨by decide +kernel, rfl⟩
set_option maxRecDepth 100000 in
theorem ii_mo_struckByTwo_16 : sm_D prog_9_method_88_code 16 3 19 (.getfield 135) := ⟨by decide +kernel, rfl⟩
set_option maxRecDepth 100000 in
theorem ii_mo_struckByTwo_19 : sm_D prog_9_method_88_code 19 1 20 (.imul) := ⟨by decide +kernel, rfl⟩
set_option maxRecDepth 100000 in
theorem ii_mo_struckByTwo_20 : sm_D prog_9_method_88_code 20 3 23 (.if_icmp .ge 29) := ⟨by decide +kernel, rfl⟩
set_option maxRecDepth 100000 in
theorem ii_mo_struckByTwo_23 : sm_D prog_9_method_88_code 23 1 24 (.aload_n 0) := ⟨by decide +kernel, rfl⟩
set_option maxRecDepth 100000 in
theorem ii_mo_struckByTwo_24 : sm_D prog_9_method_88_code 24 1 25 (.iload_n 1) := ⟨by decide +kernel, rfl⟩
set_option maxRecDepth 100000 in
theorem ii_mo_struckByTwo_25 : sm_D prog_9_method_88_code 25 1 26 (.iload_n 3) := ⟨by decide +kernel, rfl⟩
set_option maxRecDepth 100000 in
theorem ii_mo_struckByTwo_26 : sm_D prog_9_method_88_code 26 1 27 (.iload_n 2) := ⟨by decide +kernel, rfl⟩
set_option maxRecDepth 100000 in
theorem ii_mo_struckByTwo_27 : sm_D prog_9_method_88_code 27 3 30 (.invokevirtual 275) := ⟨by decide +kernel, rfl⟩
set_option maxRecDepth 100000 in
theorem ii_mo_struckByTwo_30 : sm_D prog_9_method_88_code 30 3 33 (.ifCond .eq 13) := ⟨by decide +kernel, rfl⟩
set_option maxRecDepth 100000 in
theorem ii_mo_struckByTwo_33 : sm_D prog_9_method_88_code 33 1 34 (.aload_n 0) := ⟨by decide +kernel, rfl⟩
set_option maxRecDepth 100000 in
theorem ii_mo_struckByTwo_34 : sm_D prog_9_method_88_code 34 1 35 (.iload_n 2) := ⟨by decide +kernel, rfl⟩
set_option maxRecDepth 100000 in
theorem ii_mo_struckByTwo_35 : sm_D prog_9_method_88_code 35 3 38 (.invokevirtual 272) := ⟨by decide +kernel, rfl⟩
set_option maxRecDepth 100000 in
theorem ii_mo_struckByTwo_38 : sm_D prog_9_method_88_code 38 3 41 (.ifCond .eq 5) := ⟨by decide +kernel, rfl⟩
set_option maxRecDepth 100000 in
theorem ii_mo_struckByTwo_41 : sm_D prog_9_method_88_code 41 1 42 (.iconst 0) := ⟨by decide +kernel, rfl⟩
set_option maxRecDepth 100000 in
theorem ii_mo_struckByTwo_42 : sm_D prog_9_method_88_code 42 1 43 (.ireturn) := ⟨by decide +kernel, rfl⟩
set_option maxRecDepth 100000 in
theorem ii_mo_struckByTwo_43 : sm_D prog_9_method_88_code 43 3 46 (.iinc 3 1) := ⟨by decide +kernel, rfl⟩
set_option maxRecDepth 100000 in
theorem ii_mo_struckByTwo_46 : sm_D prog_9_method_88_code 46 3 49 (.goto (-34)) := ⟨by decide +kernel, rfl⟩
set_option maxRecDepth 100000 in
theorem ii_mo_struckByTwo_49 : sm_D prog_9_method_88_code 49 2 51 (.bipush (-9)) := ⟨by decide +kernel, rfl⟩
set_option maxRecDepth 100000 in
theorem ii_mo_struckByTwo_51 : sm_D prog_9_method_88_code 51 1 52 (.ireturn) := ⟨by decide +kernel, rfl⟩
noncomputable def ff_mo_struckByTwo_12_b  (self12 : Int32 → Int32 → Int32 → sm_Mem → sm_R) (a1 : Int32) (a2 : Int32) (a3 : Int32) (w : sm_Mem) : sm_R := (if ((6 : Int32) * (w.1 62 1)) ≤ a3 then (some (.int (-9 : Int32), w)) else (sm_cI (ff_mo_moves (a1) (a3) (a2) w) fun x1 w2 => (if x1 = (0 : Int32) then self12 (a1) (a2) ((a3 + (1 : Int32))) w2 else (sm_cI (ff_mo_isDumb (a2) w2) fun x3 w4 => (if x3 = (0 : Int32) then self12 (a1) (a2) ((a3 + (1 : Int32))) w4 else (some (.int (0 : Int32), w4)))))))
noncomputable def ff_mo_struckByTwo_12_f  : Nat → Int32 → Int32 → Int32 → sm_Mem → sm_R
  | 0, _, _, _, _ => none
  | n + 1, a1, a2, a3, w => ff_mo_struckByTwo_12_b  (ff_mo_struckByTwo_12_f  n) a1 a2 a3 w
noncomputable def ff_mo_struckByTwo_12  (a1 : Int32) (a2 : Int32) (a3 : Int32) (w : sm_Mem) : sm_R := ff_mo_struckByTwo_12_f  sm_N a1 a2 a3 w
set_option maxHeartbeats 4000000 in
set_option maxRecDepth 100000 in
theorem ss_mo_struckByTwo_12_b {E : Nat × (Nat → Int32)}  (self12 : Int32 → Int32 → Int32 → sm_Mem → sm_R) (hself12 : ∀ (a1 : Int32) (a2 : Int32) (a3 : Int32) (w : sm_Mem), sm_Sim E (mi_mo_struckByTwo) 12 [some (.ref 62), some (.int a1), some (.int a2), some (.int a3)] [] w (self12 a1 a2 a3 w)) (a1 : Int32) (a2 : Int32) (a3 : Int32) (w : sm_Mem) : sm_Sim E (mi_mo_struckByTwo) 12 [some (.ref 62), some (.int a1), some (.int a2), some (.int a3)] [] w (ff_mo_struckByTwo_12_b  self12 a1 a2 a3 w) := by
  unfold ff_mo_struckByTwo_12_b
  refine sm_iload_n ii_mo_struckByTwo_12 rfl ?_
  refine sm_bipush (6 : Int32) ii_mo_struckByTwo_13 (by decide) ?_
  refine sm_aload_n ii_mo_struckByTwo_15 rfl ?_
  refine sm_getI ii_mo_struckByTwo_16 fl_mo_135 (k := 62) rfl ?_
  refine sm_imul ii_mo_struckByTwo_19 ?_
  refine sm_icmp_ge 49 ii_mo_struckByTwo_20 (by decide) ?_ ?_
  · refine sm_bipush (-9 : Int32) ii_mo_struckByTwo_49 (by decide) ?_
    exact sm_iret ii_mo_struckByTwo_51 rfl
  · refine sm_aload_n ii_mo_struckByTwo_23 rfl ?_
    refine sm_iload_n ii_mo_struckByTwo_24 rfl ?_
    refine sm_iload_n ii_mo_struckByTwo_25 rfl ?_
    refine sm_iload_n ii_mo_struckByTwo_26 rfl ?_
    refine sm_cvI [.int a1, .int a3, .int a2] [] rfl ii_mo_struckByTwo_27 ml_mo_275 (mf_mo_moves) (mv_mo_moves) (Nat.le_of_ble_eq_true rfl) rfl 7 rfl rfl rfl rfl (mc_mo_moves (a1) (a3) (a2) w) (fun x1 w2 => ?_)
    refine sm_if_eq 43 ii_mo_struckByTwo_30 (by decide) ?_ ?_
    · refine sm_iinc (a3 + (1 : Int32)) [some (.ref 62), some (.int a1), some (.int a2), some (.int (a3 + (1 : Int32)))] ii_mo_struckByTwo_43 rfl rfl rfl rfl ?_
      refine sm_goto 12 ii_mo_struckByTwo_46 (by decide) ?_
      exact hself12 (a1) (a2) ((a3 + (1 : Int32))) w2
    · refine sm_aload_n ii_mo_struckByTwo_33 rfl ?_
      refine sm_iload_n ii_mo_struckByTwo_34 rfl ?_
      refine sm_cvI [.int a2] [] rfl ii_mo_struckByTwo_35 ml_mo_272 (mf_mo_isDumb) (mv_mo_isDumb) (Nat.le_of_ble_eq_true rfl) rfl 7 rfl rfl rfl rfl (mc_mo_isDumb (a2) w2) (fun x3 w4 => ?_)
      refine sm_if_eq 43 ii_mo_struckByTwo_38 (by decide) ?_ ?_
      · refine sm_iinc (a3 + (1 : Int32)) [some (.ref 62), some (.int a1), some (.int a2), some (.int (a3 + (1 : Int32)))] ii_mo_struckByTwo_43 rfl rfl rfl rfl ?_
        refine sm_goto 12 ii_mo_struckByTwo_46 (by decide) ?_
        exact hself12 (a1) (a2) ((a3 + (1 : Int32))) w4
      · refine sm_iconst (0 : Int32) ii_mo_struckByTwo_41 (by decide) ?_
        exact sm_iret ii_mo_struckByTwo_42 rfl
set_option maxHeartbeats 4000000 in
set_option maxRecDepth 100000 in
theorem ss_mo_struckByTwo_12_f {E : Nat × (Nat → Int32)}  : ∀ (n : Nat) (a1 : Int32) (a2 : Int32) (a3 : Int32) (w : sm_Mem), sm_Sim E (mi_mo_struckByTwo) 12 [some (.ref 62), some (.int a1), some (.int a2), some (.int a3)] [] w (ff_mo_struckByTwo_12_f  n a1 a2 a3 w)
  | 0, _, _, _, _ => fun _ _ h => by cases h
  | n + 1, a1, a2, a3, w => ss_mo_struckByTwo_12_b  _ (ss_mo_struckByTwo_12_f  n) a1 a2 a3 w
set_option maxHeartbeats 4000000 in
set_option maxRecDepth 100000 in
theorem ss_mo_struckByTwo_12 {E : Nat × (Nat → Int32)}  (a1 : Int32) (a2 : Int32) (a3 : Int32) (w : sm_Mem) : sm_Sim E (mi_mo_struckByTwo) 12 [some (.ref 62), some (.int a1), some (.int a2), some (.int a3)] [] w (ff_mo_struckByTwo_12  a1 a2 a3 w) := ss_mo_struckByTwo_12_f  sm_N a1 a2 a3 w
noncomputable def ff_mo_struckByTwo  (a1 : Int32) (a2 : Int32) (w : sm_Mem) : sm_R := (sm_cI (ff_mo_isDumb (a1) w) fun x5 w6 => (if x5 = (0 : Int32) then ff_mo_struckByTwo_12 (a1) (a2) ((0 : Int32)) w6 else (some (.int (1 : Int32), w6))))
set_option maxHeartbeats 4000000 in
set_option maxRecDepth 100000 in
theorem ss_mo_struckByTwo_0 {E : Nat × (Nat → Int32)}  (a1 : Int32) (a2 : Int32) (w : sm_Mem) : sm_Sim E (mi_mo_struckByTwo) 0 [some (.ref 62), some (.int a1), some (.int a2), none] [] w (ff_mo_struckByTwo  a1 a2 w) := by
  unfold ff_mo_struckByTwo
  refine sm_aload_n ii_mo_struckByTwo_0 rfl ?_
  refine sm_iload_n ii_mo_struckByTwo_1 rfl ?_
  refine sm_cvI [.int a1] [] rfl ii_mo_struckByTwo_2 ml_mo_272 (mf_mo_isDumb) (mv_mo_isDumb) (Nat.le_of_ble_eq_true rfl) rfl 7 rfl rfl rfl rfl (mc_mo_isDumb (a1) w) (fun x5 w6 => ?_)
  refine sm_if_eq 10 ii_mo_struckByTwo_5 (by decide) ?_ ?_
  · refine sm_iconst (0 : Int32) ii_mo_struckByTwo_10 (by decide) ?_
    refine sm_istore_n [some (.ref 62), some (.int a1), some (.int a2), some (.int (0 : Int32))] ii_mo_struckByTwo_11 rfl rfl ?_
    exact ss_mo_struckByTwo_12 (a1) (a2) ((0 : Int32)) w6
  · refine sm_iconst (1 : Int32) ii_mo_struckByTwo_8 (by decide) ?_
    exact sm_iret ii_mo_struckByTwo_9 rfl
set_option maxHeartbeats 4000000 in
set_option maxRecDepth 100000 in
theorem mc_mo_struckByTwo (a1 : Int32) (a2 : Int32) (w : sm_Mem) : sm_MC mi_mo_struckByTwo [.ref 62, .int a1, .int a2] w (ff_mo_struckByTwo a1 a2 w) := sm_MC_of (0, fun _ => 0) (by decide +kernel) (by decide) rfl (Nat.le_of_ble_eq_true rfl) (ss_mo_struckByTwo_0 a1 a2 w)
abbrev mi_mo_struckByThree : sm_MI := (⟨"HerOrdersModel", "struckByThree", "()I"⟩, prog_9_method_89_code, 4, (some .int), 7)
set_option maxRecDepth 100000 in
theorem mf_mo_struckByThree : sm_MF mi_mo_struckByThree 0 := ⟨List.mem_of_getElem? (i := 1362) (by decide +kernel), List.mem_of_getElem? (i := 132) (by decide +kernel), ⟨by decide, by decide⟩, by decide +kernel⟩
set_option maxRecDepth 100000 in
theorem mv_mo_struckByThree : sm_MFV mi_mo_struckByThree := ⟨List.mem_of_getElem? (i := 1361) (by decide +kernel), List.mem_of_getElem? (i := 112) (by decide +kernel)⟩
set_option maxRecDepth 100000 in
theorem ii_mo_struckByThree_0 : sm_D prog_9_method_89_code 0 1 1 (.iconst 1) := ⟨by decide +kernel, rfl⟩
set_option maxRecDepth 100000 in
theorem ii_mo_struckByThree_1 : sm_D prog_9_method_89_code 1 1 2 (.istore_n 1) := ⟨by decide +kernel, rfl⟩
set_option maxRecDepth 100000 in
theorem ii_mo_struckByThree_2 : sm_D prog_9_method_89_code 2 1 3 (.iconst 0) := ⟨by decide +kernel, rfl⟩
set_option maxRecDepth 100000 in
theorem ii_mo_struckByThree_3 : sm_D prog_9_method_89_code 3 1 4 (.istore_n 2) := ⟨by decide +kernel, rfl⟩
set_option maxRecDepth 100000 in
theorem ii_mo_struckByThree_4 : sm_D prog_9_method_89_code 4 1 5 (.iload_n 2) := ⟨by decide +kernel, rfl⟩
set_option maxRecDepth 100000 in
theorem ii_mo_struckByThree_5 : sm_D prog_9_method_89_code 5 2 7 (.bipush 6) := ⟨by decide +kernel, rfl⟩
set_option maxRecDepth 100000 in
theorem ii_mo_struckByThree_7 : sm_D prog_9_method_89_code 7 1 8 (.aload_n 0) := ⟨by decide +kernel, rfl⟩
set_option maxRecDepth 100000 in
theorem ii_mo_struckByThree_8 : sm_D prog_9_method_89_code 8 3 11 (.getfield 135) := ⟨by decide +kernel, rfl⟩
set_option maxRecDepth 100000 in
theorem ii_mo_struckByThree_11 : sm_D prog_9_method_89_code 11 1 12 (.imul) := ⟨by decide +kernel, rfl⟩
set_option maxRecDepth 100000 in
theorem ii_mo_struckByThree_12 : sm_D prog_9_method_89_code 12 3 15 (.if_icmp .ge 53) := ⟨by decide +kernel, rfl⟩
set_option maxRecDepth 100000 in
theorem ii_mo_struckByThree_15 : sm_D prog_9_method_89_code 15 1 16 (.aload_n 0) := ⟨by decide +kernel, rfl⟩
set_option maxRecDepth 100000 in
theorem ii_mo_struckByThree_16 : sm_D prog_9_method_89_code 16 1 17 (.iconst 0) := ⟨by decide +kernel, rfl⟩
set_option maxRecDepth 100000 in
theorem ii_mo_struckByThree_17 : sm_D prog_9_method_89_code 17 1 18 (.iload_n 2) := ⟨by decide +kernel, rfl⟩
set_option maxRecDepth 100000 in
theorem ii_mo_struckByThree_18 : sm_D prog_9_method_89_code 18 3 21 (.sipush 5088) := ⟨by decide +kernel, rfl⟩
set_option maxRecDepth 100000 in
theorem ii_mo_struckByThree_21 : sm_D prog_9_method_89_code 21 3 24 (.invokevirtual 275) := ⟨by decide +kernel, rfl⟩
set_option maxRecDepth 100000 in
theorem ii_mo_struckByThree_24 : sm_D prog_9_method_89_code 24 3 27 (.ifCond .eq 35) := ⟨by decide +kernel, rfl⟩
set_option maxRecDepth 100000 in
theorem ii_mo_struckByThree_27 : sm_D prog_9_method_89_code 27 1 28 (.aload_n 0) := ⟨by decide +kernel, rfl⟩
set_option maxRecDepth 100000 in
theorem ii_mo_struckByThree_28 : sm_D prog_9_method_89_code 28 3 31 (.sipush 5088) := ⟨by decide +kernel, rfl⟩
set_option maxRecDepth 100000 in
theorem ii_mo_struckByThree_31 : sm_D prog_9_method_89_code 31 3 34 (.sipush 5120) := ⟨by decide +kernel, rfl⟩
set_option maxRecDepth 100000 in
theorem ii_mo_struckByThree_34 : sm_D prog_9_method_89_code 34 3 37 (.invokevirtual 278) := ⟨by decide +kernel, rfl⟩
set_option maxRecDepth 100000 in
theorem ii_mo_struckByThree_37 : sm_D prog_9_method_89_code 37 1 38 (.istore_n 3) := ⟨by decide +kernel, rfl⟩
set_option maxRecDepth 100000 in
theorem ii_mo_struckByThree_38 : sm_D prog_9_method_89_code 38 1 39 (.iload_n 3) := ⟨by decide +kernel, rfl⟩
set_option maxRecDepth 100000 in
theorem ii_mo_struckByThree_39 : sm_D prog_9_method_89_code 39 1 40 (.iconst 1) := ⟨by decide +kernel, rfl⟩
set_option maxRecDepth 100000 in
theorem ii_mo_struckByThree_40 : sm_D prog_9_method_89_code 40 3 43 (.if_icmp .ne 5) := ⟨by decide +kernel, rfl⟩
set_option maxRecDepth 100000 in
theorem ii_mo_struckByThree_43 : sm_D prog_9_method_89_code 43 1 44 (.iconst 0) := ⟨by decide +kernel, rfl⟩
set_option maxRecDepth 100000 in
theorem ii_mo_struckByThree_44 : sm_D prog_9_method_89_code 44 1 45 (.ireturn) := ⟨by decide +kernel, rfl⟩
set_option maxRecDepth 100000 in
theorem ii_mo_struckByThree_45 : sm_D prog_9_method_89_code 45 1 46 (.iload_n 1) := ⟨by decide +kernel, rfl⟩
set_option maxRecDepth 100000 in
theorem ii_mo_struckByThree_46 : sm_D prog_9_method_89_code 46 3 49 (.ifCond .eq 11) := ⟨by decide +kernel, rfl⟩
set_option maxRecDepth 100000 in
theorem ii_mo_struckByThree_49 : sm_D prog_9_method_89_code 49 1 50 (.iload_n 3) := ⟨by decide +kernel, rfl⟩
set_option maxRecDepth 100000 in
theorem ii_mo_struckByThree_50 : sm_D prog_9_method_89_code 50 3 53 (.ifCond .ne 7) := ⟨by decide +kernel, rfl⟩
set_option maxRecDepth 100000 in
theorem ii_mo_struckByThree_53 : sm_D prog_9_method_89_code 53 1 54 (.iconst 1) := ⟨by decide +kernel, rfl⟩
set_option maxRecDepth 100000 in
theorem ii_mo_struckByThree_54 : sm_D prog_9_method_89_code 54 3 57 (.goto 4) := ⟨by decide +kernel, rfl⟩
set_option maxRecDepth 100000 in
theorem ii_mo_struckByThree_57 : sm_D prog_9_method_89_code 57 1 58 (.iconst 0) := ⟨by decide +kernel, rfl⟩
set_option maxRecDepth 100000 in
theorem ii_mo_struckByThree_58 : sm_D prog_9_method_89_code 58 1 59 (.istore_n 1) := ⟨by decide +kernel, rfl⟩
set_option maxRecDepth 100000 in
theorem ii_mo_struckByThree_59 : sm_D prog_9_method_89_code 59 3 62 (.iinc 2 1) := ⟨by decide +kernel, rfl⟩
set_option maxRecDepth 100000 in
theorem ii_mo_struckByThree_62 : sm_D prog_9_method_89_code 62 3 65 (.goto (-58)) := ⟨by decide +kernel, rfl⟩
set_option maxRecDepth 100000 in
theorem ii_mo_struckByThree_65 : sm_D prog_9_method_89_code 65 1 66 (.iload_n 1) := ⟨by decide +kernel, rfl⟩
set_option maxRecDepth 100000 in
theorem ii_mo_struckByThree_66 : sm_D prog_9_method_89_code 66 3 69 (.ifCond .eq 7) := ⟨by decide +kernel, rfl⟩
set_option maxRecDepth 100000 in
theorem ii_mo_struckByThree_69 : sm_D prog_9_method_89_code 69 1 70 (.iconst 1) := ⟨by decide +kernel, rfl⟩
set_option maxRecDepth 100000 in
theorem ii_mo_struckByThree_70 : sm_D prog_9_method_89_code 70 3 73 (.goto 5) := ⟨by decide +kernel, rfl⟩
set_option maxRecDepth 100000 in
theorem ii_mo_struckByThree_73 : sm_D prog_9_method_89_code 73 2 75 (.bipush (-9)) := ⟨by decide +kernel, rfl⟩
set_option maxRecDepth 100000 in
theorem ii_mo_struckByThree_75 : sm_D prog_9_method_89_code 75 1 76 (.ireturn) := ⟨by decide +kernel, rfl⟩
noncomputable def ff_mo_struckByThree_57 (self4 : Int32 → Int32 → sm_Mem → sm_R) (a2 : Int32) (w : sm_Mem) : sm_R := self4 ((0 : Int32)) ((a2 + (1 : Int32))) w
set_option maxHeartbeats 4000000 in
set_option maxRecDepth 100000 in
theorem ss_mo_struckByThree_57 {E : Nat × (Nat → Int32)} (self4 : Int32 → Int32 → sm_Mem → sm_R) (hself4 : ∀ (a1 : Int32) (a2 : Int32) (w : sm_Mem), sm_Sim E (mi_mo_struckByThree) 4 [some (.ref 62), some (.int a1), some (.int a2), none] [] w (self4 a1 a2 w)) (a2 : Int32) (w : sm_Mem) : sm_Sim E (mi_mo_struckByThree) 57 [some (.ref 62), none, some (.int a2), none] [] w (ff_mo_struckByThree_57 self4 a2 w) := by
  unfold ff_mo_struckByThree_57
  refine sm_iconst (0 : Int32) ii_mo_struckByThree_57 (by decide) ?_
  refine sm_istore_n [some (.ref 62), some (.int (0 : Int32)), some (.int a2), none] ii_mo_struckByThree_58 rfl rfl ?_
  refine sm_iinc (a2 + (1 : Int32)) [some (.ref 62), some (.int (0 : Int32)), some (.int (a2 + (1 : Int32))), none] ii_mo_struckByThree_59 rfl rfl rfl rfl ?_
  refine sm_goto 4 ii_mo_struckByThree_62 (by decide) ?_
  exact hself4 ((0 : Int32)) ((a2 + (1 : Int32))) w
noncomputable def ff_mo_struckByThree_4_b  (self4 : Int32 → Int32 → sm_Mem → sm_R) (a1 : Int32) (a2 : Int32) (w : sm_Mem) : sm_R := (if ((6 : Int32) * (w.1 62 1)) ≤ a2 then (if a1 = (0 : Int32) then (some (.int (-9 : Int32), w)) else (some (.int (1 : Int32), w))) else (sm_cI (ff_mo_moves ((0 : Int32)) (a2) ((5088 : Int32)) w) fun x1 w2 => (if x1 = (0 : Int32) then self4 (a1) ((a2 + (1 : Int32))) w2 else (sm_cI (ff_mo_struckByTwo ((5088 : Int32)) ((5120 : Int32)) w2) fun x3 w4 => (if x3 = (1 : Int32) then (some (.int (0 : Int32), w4)) else (if a1 = (0 : Int32) then ff_mo_struckByThree_57 self4 (a2) w4 else (if x3 = (0 : Int32) then self4 ((1 : Int32)) ((a2 + (1 : Int32))) w4 else ff_mo_struckByThree_57 self4 (a2) w4)))))))
noncomputable def ff_mo_struckByThree_4_f  : Nat → Int32 → Int32 → sm_Mem → sm_R
  | 0, _, _, _ => none
  | n + 1, a1, a2, w => ff_mo_struckByThree_4_b  (ff_mo_struckByThree_4_f  n) a1 a2 w
noncomputable def ff_mo_struckByThree_4  (a1 : Int32) (a2 : Int32) (w : sm_Mem) : sm_R := ff_mo_struckByThree_4_f  sm_N a1 a2 w
set_option maxHeartbeats 4000000 in
set_option maxRecDepth 100000 in
theorem ss_mo_struckByThree_4_b {E : Nat × (Nat → Int32)}  (self4 : Int32 → Int32 → sm_Mem → sm_R) (hself4 : ∀ (a1 : Int32) (a2 : Int32) (w : sm_Mem), sm_Sim E (mi_mo_struckByThree) 4 [some (.ref 62), some (.int a1), some (.int a2), none] [] w (self4 a1 a2 w)) (a1 : Int32) (a2 : Int32) (w : sm_Mem) : sm_Sim E (mi_mo_struckByThree) 4 [some (.ref 62), some (.int a1), some (.int a2), none] [] w (ff_mo_struckByThree_4_b  self4 a1 a2 w) := by
  unfold ff_mo_struckByThree_4_b
  refine sm_iload_n ii_mo_struckByThree_4 rfl ?_
  refine sm_bipush (6 : Int32) ii_mo_struckByThree_5 (by decide) ?_
  refine sm_aload_n ii_mo_struckByThree_7 rfl ?_
  refine sm_getI ii_mo_struckByThree_8 fl_mo_135 (k := 62) rfl ?_
  refine sm_imul ii_mo_struckByThree_11 ?_
  refine sm_icmp_ge 65 ii_mo_struckByThree_12 (by decide) ?_ ?_
  · refine sm_iload_n ii_mo_struckByThree_65 rfl ?_
    refine sm_if_eq 73 ii_mo_struckByThree_66 (by decide) ?_ ?_
    · refine sm_bipush (-9 : Int32) ii_mo_struckByThree_73 (by decide) ?_
      exact sm_iret ii_mo_struckByThree_75 rfl
    · refine sm_iconst (1 : Int32) ii_mo_struckByThree_69 (by decide) ?_
      refine sm_goto 75 ii_mo_struckByThree_70 (by decide) ?_
      exact sm_iret ii_mo_struckByThree_75 rfl
  · refine sm_aload_n ii_mo_struckByThree_15 rfl ?_
    refine sm_iconst (0 : Int32) ii_mo_struckByThree_16 (by decide) ?_
    refine sm_iload_n ii_mo_struckByThree_17 rfl ?_
    refine sm_sipush (5088 : Int32) ii_mo_struckByThree_18 (by decide) ?_
    refine sm_cvI [.int (0 : Int32), .int a2, .int (5088 : Int32)] [] rfl ii_mo_struckByThree_21 ml_mo_275 (mf_mo_moves) (mv_mo_moves) (Nat.le_of_ble_eq_true rfl) rfl 7 rfl rfl rfl rfl (mc_mo_moves ((0 : Int32)) (a2) ((5088 : Int32)) w) (fun x1 w2 => ?_)
    refine sm_if_eq 59 ii_mo_struckByThree_24 (by decide) ?_ ?_
    · refine sm_iinc (a2 + (1 : Int32)) [some (.ref 62), some (.int a1), some (.int (a2 + (1 : Int32))), none] ii_mo_struckByThree_59 rfl rfl rfl rfl ?_
      refine sm_goto 4 ii_mo_struckByThree_62 (by decide) ?_
      exact hself4 (a1) ((a2 + (1 : Int32))) w2
    · refine sm_aload_n ii_mo_struckByThree_27 rfl ?_
      refine sm_sipush (5088 : Int32) ii_mo_struckByThree_28 (by decide) ?_
      refine sm_sipush (5120 : Int32) ii_mo_struckByThree_31 (by decide) ?_
      refine sm_cvI [.int (5088 : Int32), .int (5120 : Int32)] [] rfl ii_mo_struckByThree_34 ml_mo_278 (mf_mo_struckByTwo) (mv_mo_struckByTwo) (Nat.le_of_ble_eq_true rfl) rfl 7 rfl rfl rfl rfl (mc_mo_struckByTwo ((5088 : Int32)) ((5120 : Int32)) w2) (fun x3 w4 => ?_)
      refine sm_istore_n [some (.ref 62), some (.int a1), some (.int a2), some (.int x3)] ii_mo_struckByThree_37 rfl rfl ?_
      refine sm_iload_n ii_mo_struckByThree_38 rfl ?_
      refine sm_iconst (1 : Int32) ii_mo_struckByThree_39 (by decide) ?_
      refine sm_icmp_ne 45 ii_mo_struckByThree_40 (by decide) ?_ ?_
      · refine sm_iconst (0 : Int32) ii_mo_struckByThree_43 (by decide) ?_
        exact sm_iret ii_mo_struckByThree_44 rfl
      · refine sm_iload_n ii_mo_struckByThree_45 rfl ?_
        refine sm_if_eq 57 ii_mo_struckByThree_46 (by decide) ?_ ?_
        · refine sm_msk [true, false, true, false] [some (.ref 62), none, some (.int a2), none] rfl ?_
          exact ss_mo_struckByThree_57 self4 hself4 (a2) w4
        · refine sm_iload_n ii_mo_struckByThree_49 rfl ?_
          refine sm_if_ne 57 ii_mo_struckByThree_50 (by decide) ?_ ?_
          · refine sm_iconst (1 : Int32) ii_mo_struckByThree_53 (by decide) ?_
            refine sm_goto 58 ii_mo_struckByThree_54 (by decide) ?_
            refine sm_istore_n [some (.ref 62), some (.int (1 : Int32)), some (.int a2), some (.int x3)] ii_mo_struckByThree_58 rfl rfl ?_
            refine sm_iinc (a2 + (1 : Int32)) [some (.ref 62), some (.int (1 : Int32)), some (.int (a2 + (1 : Int32))), some (.int x3)] ii_mo_struckByThree_59 rfl rfl rfl rfl ?_
            refine sm_goto 4 ii_mo_struckByThree_62 (by decide) ?_
            refine sm_msk [true, true, true, false] [some (.ref 62), some (.int (1 : Int32)), some (.int (a2 + (1 : Int32))), none] rfl ?_
            exact hself4 ((1 : Int32)) ((a2 + (1 : Int32))) w4
          · refine sm_msk [true, false, true, false] [some (.ref 62), none, some (.int a2), none] rfl ?_
            exact ss_mo_struckByThree_57 self4 hself4 (a2) w4
set_option maxHeartbeats 4000000 in
set_option maxRecDepth 100000 in
theorem ss_mo_struckByThree_4_f {E : Nat × (Nat → Int32)}  : ∀ (n : Nat) (a1 : Int32) (a2 : Int32) (w : sm_Mem), sm_Sim E (mi_mo_struckByThree) 4 [some (.ref 62), some (.int a1), some (.int a2), none] [] w (ff_mo_struckByThree_4_f  n a1 a2 w)
  | 0, _, _, _ => fun _ _ h => by cases h
  | n + 1, a1, a2, w => ss_mo_struckByThree_4_b  _ (ss_mo_struckByThree_4_f  n) a1 a2 w
set_option maxHeartbeats 4000000 in
set_option maxRecDepth 100000 in
theorem ss_mo_struckByThree_4 {E : Nat × (Nat → Int32)}  (a1 : Int32) (a2 : Int32) (w : sm_Mem) : sm_Sim E (mi_mo_struckByThree) 4 [some (.ref 62), some (.int a1), some (.int a2), none] [] w (ff_mo_struckByThree_4  a1 a2 w) := ss_mo_struckByThree_4_f  sm_N a1 a2 w
noncomputable def ff_mo_struckByThree   (w : sm_Mem) : sm_R := ff_mo_struckByThree_4 ((1 : Int32)) ((0 : Int32)) w
set_option maxHeartbeats 4000000 in
set_option maxRecDepth 100000 in
theorem ss_mo_struckByThree_0 {E : Nat × (Nat → Int32)}   (w : sm_Mem) : sm_Sim E (mi_mo_struckByThree) 0 [some (.ref 62), none, none, none] [] w (ff_mo_struckByThree   w) := by
  unfold ff_mo_struckByThree
  refine sm_iconst (1 : Int32) ii_mo_struckByThree_0 (by decide) ?_
  refine sm_istore_n [some (.ref 62), some (.int (1 : Int32)), none, none] ii_mo_struckByThree_1 rfl rfl ?_
  refine sm_iconst (0 : Int32) ii_mo_struckByThree_2 (by decide) ?_
  refine sm_istore_n [some (.ref 62), some (.int (1 : Int32)), some (.int (0 : Int32)), none] ii_mo_struckByThree_3 rfl rfl ?_
  exact ss_mo_struckByThree_4 ((1 : Int32)) ((0 : Int32)) w
set_option maxHeartbeats 4000000 in
set_option maxRecDepth 100000 in
theorem mc_mo_struckByThree  (w : sm_Mem) : sm_MC mi_mo_struckByThree [.ref 62] w (ff_mo_struckByThree  w) := sm_MC_of (0, fun _ => 0) (by decide +kernel) (by decide) rfl (Nat.le_of_ble_eq_true rfl) (ss_mo_struckByThree_0  w)
abbrev mi_mo_struck : sm_MI := (⟨"HerOrdersModel", "struck", "(I)I"⟩, prog_9_method_90_code, 2, (some .int), 8)
set_option maxRecDepth 100000 in
theorem mf_mo_struck : sm_MF mi_mo_struck 1 := ⟨List.mem_of_getElem? (i := 1358) (by decide +kernel), List.mem_of_getElem? (i := 132) (by decide +kernel), ⟨by decide, by decide⟩, by decide +kernel⟩
set_option maxRecDepth 100000 in
theorem mv_mo_struck : sm_MFV mi_mo_struck := ⟨List.mem_of_getElem? (i := 1356) (by decide +kernel), List.mem_of_getElem? (i := 1357) (by decide +kernel)⟩
set_option maxRecDepth 100000 in
theorem ii_mo_struck_0 : sm_D prog_9_method_90_code 0 1 1 (.iload_n 1) := ⟨by decide +kernel, rfl⟩
set_option maxRecDepth 100000 in
theorem ii_mo_struck_1 : sm_D prog_9_method_90_code 1 1 2 (.i2l) := ⟨by decide +kernel, rfl⟩
set_option maxRecDepth 100000 in
theorem ii_mo_struck_2 : sm_D prog_9_method_90_code 2 1 3 (.lconst 0) := ⟨by decide +kernel, rfl⟩
set_option maxRecDepth 100000 in
theorem ii_mo_struck_3 : sm_D prog_9_method_90_code 3 3 6 (.ldc2_w 75) := ⟨by decide +kernel, rfl⟩
set_option maxRecDepth 100000 in
theorem ii_mo_struck_6 : sm_D prog_9_method_90_code 6 3 9 (.invokestatic 71) := ⟨by decide +kernel, rfl⟩
set_option maxRecDepth 100000 in
theorem ii_mo_struck_9 : sm_D prog_9_method_90_code 9 3 12 (.ifCond .ne 5) := ⟨by decide +kernel, rfl⟩
set_option maxRecDepth 100000 in
theorem ii_mo_struck_12 : sm_D prog_9_method_90_code 12 1 13 (.iconst (-1)) := ⟨by decide +kernel, rfl⟩
set_option maxRecDepth 100000 in
theorem ii_mo_struck_13 : sm_D prog_9_method_90_code 13 1 14 (.ireturn) := ⟨by decide +kernel, rfl⟩
set_option maxRecDepth 100000 in
theorem ii_mo_struck_14 : sm_D prog_9_method_90_code 14 1 15 (.aload_n 0) := ⟨by decide +kernel, rfl⟩
set_option maxRecDepth 100000 in
theorem ii_mo_struck_15 : sm_D prog_9_method_90_code 15 3 18 (.getfield 135) := ⟨by decide +kernel, rfl⟩
set_option maxRecDepth 100000 in
theorem ii_mo_struck_18 : sm_D prog_9_method_90_code 18 3 21 (.ifCond .ne 6) := ⟨by decide +kernel, rfl⟩
set_option maxRecDepth 100000 in
theorem ii_mo_struck_21 : sm_D prog_9_method_90_code 21 2 23 (.bipush (-4)) := ⟨by decide +kernel, rfl⟩
set_option maxRecDepth 100000 in
theorem ii_mo_struck_23 : sm_D prog_9_method_90_code 23 1 24 (.ireturn) := ⟨by decide +kernel, rfl⟩
set_option maxRecDepth 100000 in
theorem ii_mo_struck_24 : sm_D prog_9_method_90_code 24 1 25 (.iload_n 1) := ⟨by decide +kernel, rfl⟩
set_option maxRecDepth 100000 in
theorem ii_mo_struck_25 : sm_D prog_9_method_90_code 25 3 28 (.ifCond .ne 6) := ⟨by decide +kernel, rfl⟩
set_option maxRecDepth 100000 in
theorem ii_mo_struck_28 : sm_D prog_9_method_90_code 28 2 30 (.bipush (-9)) := ⟨by decide +kernel, rfl⟩
set_option maxRecDepth 100000 in
theorem ii_mo_struck_30 : sm_D prog_9_method_90_code 30 1 31 (.ireturn) := ⟨by decide +kernel, rfl⟩
set_option maxRecDepth 100000 in
theorem ii_mo_struck_31 : sm_D prog_9_method_90_code 31 1 32 (.iload_n 1) := ⟨by decide +kernel, rfl⟩
set_option maxRecDepth 100000 in
theorem ii_mo_struck_32 : sm_D prog_9_method_90_code 32 1 33 (.iconst 3) := ⟨by decide +kernel, rfl⟩
set_option maxRecDepth 100000 in
theorem ii_mo_struck_33 : sm_D prog_9_method_90_code 33 3 36 (.if_icmp .ne 10) := ⟨by decide +kernel, rfl⟩
set_option maxRecDepth 100000 in
theorem ii_mo_struck_36 : sm_D prog_9_method_90_code 36 1 37 (.aload_n 0) := ⟨by decide +kernel, rfl⟩
set_option maxRecDepth 100000 in
theorem ii_mo_struck_37 : sm_D prog_9_method_90_code 37 3 40 (.invokevirtual 281) := ⟨by decide +kernel, rfl⟩
set_option maxRecDepth 100000 in
theorem ii_mo_struck_40 : sm_D prog_9_method_90_code 40 3 43 (.goto 33) := ⟨by decide +kernel, rfl⟩
set_option maxRecDepth 100000 in
theorem ii_mo_struck_43 : sm_D prog_9_method_90_code 43 1 44 (.iload_n 1) := ⟨by decide +kernel, rfl⟩
set_option maxRecDepth 100000 in
theorem ii_mo_struck_44 : sm_D prog_9_method_90_code 44 1 45 (.iconst 2) := ⟨by decide +kernel, rfl⟩
set_option maxRecDepth 100000 in
theorem ii_mo_struck_45 : sm_D prog_9_method_90_code 45 3 48 (.if_icmp .ne 14) := ⟨by decide +kernel, rfl⟩
set_option maxRecDepth 100000 in
theorem ii_mo_struck_48 : sm_D prog_9_method_90_code 48 1 49 (.aload_n 0) := ⟨by decide +kernel, rfl⟩
set_option maxRecDepth 100000 in
theorem ii_mo_struck_49 : sm_D prog_9_method_90_code 49 1 50 (.iconst 0) := ⟨by decide +kernel, rfl⟩
set_option maxRecDepth 100000 in
theorem ii_mo_struck_50 : sm_D prog_9_method_90_code 50 3 53 (.sipush 5088) := ⟨by decide +kernel, rfl⟩
set_option maxRecDepth 100000 in
theorem ii_mo_struck_53 : sm_D prog_9_method_90_code 53 3 56 (.invokevirtual 278) := ⟨by decide +kernel, rfl⟩
set_option maxRecDepth 100000 in
theorem ii_mo_struck_56 : sm_D prog_9_method_90_code 56 3 59 (.goto 17) := ⟨by decide +kernel, rfl⟩
set_option maxRecDepth 100000 in
theorem ii_mo_struck_59 : sm_D prog_9_method_90_code 59 1 60 (.aload_n 0) := ⟨by decide +kernel, rfl⟩
set_option maxRecDepth 100000 in
theorem ii_mo_struck_60 : sm_D prog_9_method_90_code 60 1 61 (.iconst 0) := ⟨by decide +kernel, rfl⟩
set_option maxRecDepth 100000 in
theorem ii_mo_struck_61 : sm_D prog_9_method_90_code 61 3 64 (.invokevirtual 272) := ⟨by decide +kernel, rfl⟩
set_option maxRecDepth 100000 in
theorem ii_mo_struck_64 : sm_D prog_9_method_90_code 64 3 67 (.ifCond .eq 7) := ⟨by decide +kernel, rfl⟩
set_option maxRecDepth 100000 in
theorem ii_mo_struck_67 : sm_D prog_9_method_90_code 67 1 68 (.iconst 1) := ⟨by decide +kernel, rfl⟩
set_option maxRecDepth 100000 in
theorem ii_mo_struck_68 : sm_D prog_9_method_90_code 68 3 71 (.goto 5) := ⟨by decide +kernel, rfl⟩
set_option maxRecDepth 100000 in
theorem ii_mo_struck_71 : sm_D prog_9_method_90_code 71 2 73 (.bipush (-9)) := ⟨by decide +kernel, rfl⟩
set_option maxRecDepth 100000 in
theorem ii_mo_struck_73 : sm_D prog_9_method_90_code 73 1 74 (.ireturn) := ⟨by decide +kernel, rfl⟩
noncomputable def ff_mo_struck  (a1 : Int32) (w : sm_Mem) : sm_R := (sm_cI (ff_mo_in ((Int32.toInt64 a1)) ((0 : Int64)) ((3 : Int64)) w) fun x1 w2 => (if x1 = (0 : Int32) then (some (.int (-1 : Int32), w2)) else (if (w2.1 62 1) = (0 : Int32) then (some (.int (-4 : Int32), w2)) else (if a1 = (0 : Int32) then (some (.int (-9 : Int32), w2)) else (if a1 = (3 : Int32) then (sm_cI (ff_mo_struckByThree  w2) fun x7 w8 => (some (.int x7, w8))) else (if a1 = (2 : Int32) then (sm_cI (ff_mo_struckByTwo ((0 : Int32)) ((5088 : Int32)) w2) fun x5 w6 => (some (.int x5, w6))) else (sm_cI (ff_mo_isDumb ((0 : Int32)) w2) fun x3 w4 => (if x3 = (0 : Int32) then (some (.int (-9 : Int32), w4)) else (some (.int (1 : Int32), w4))))))))))
set_option maxHeartbeats 4000000 in
set_option maxRecDepth 100000 in
theorem ss_mo_struck_0 {E : Nat × (Nat → Int32)}  (a1 : Int32) (w : sm_Mem) : sm_Sim E (mi_mo_struck) 0 [some (.ref 62), some (.int a1)] [] w (ff_mo_struck  a1 w) := by
  unfold ff_mo_struck
  refine sm_iload_n ii_mo_struck_0 rfl ?_
  refine sm_i2l ii_mo_struck_1 ?_
  refine sm_lconst (0 : Int64) ii_mo_struck_2 (by decide) ?_
  refine sm_ldc2 (3 : Int64) ii_mo_struck_3 (List.mem_of_getElem? (i := 1091) (by decide +kernel)) ?_
  refine sm_csI [.long (Int32.toInt64 a1), .long (0 : Int64), .long (3 : Int64)] [] rfl ii_mo_struck_6 ml_mo_71 (mf_mo_in) (mv_mo_in) (Nat.le_of_ble_eq_true rfl) rfl rfl rfl (mc_mo_in ((Int32.toInt64 a1)) ((0 : Int64)) ((3 : Int64)) w) (fun x1 w2 => ?_)
  refine sm_if_ne 14 ii_mo_struck_9 (by decide) ?_ ?_
  · refine sm_iconst (-1 : Int32) ii_mo_struck_12 (by decide) ?_
    exact sm_iret ii_mo_struck_13 rfl
  · refine sm_aload_n ii_mo_struck_14 rfl ?_
    refine sm_getI ii_mo_struck_15 fl_mo_135 (k := 62) rfl ?_
    refine sm_if_ne 24 ii_mo_struck_18 (by decide) ?_ ?_
    · refine sm_bipush (-4 : Int32) ii_mo_struck_21 (by decide) ?_
      exact sm_iret ii_mo_struck_23 rfl
    · refine sm_iload_n ii_mo_struck_24 rfl ?_
      refine sm_if_ne 31 ii_mo_struck_25 (by decide) ?_ ?_
      · refine sm_bipush (-9 : Int32) ii_mo_struck_28 (by decide) ?_
        exact sm_iret ii_mo_struck_30 rfl
      · refine sm_iload_n ii_mo_struck_31 rfl ?_
        refine sm_iconst (3 : Int32) ii_mo_struck_32 (by decide) ?_
        refine sm_icmp_ne 43 ii_mo_struck_33 (by decide) ?_ ?_
        · refine sm_aload_n ii_mo_struck_36 rfl ?_
          refine sm_cvI [] [] rfl ii_mo_struck_37 ml_mo_281 (mf_mo_struckByThree) (mv_mo_struckByThree) (Nat.le_of_ble_eq_true rfl) rfl 7 rfl rfl rfl rfl (mc_mo_struckByThree  w2) (fun x7 w8 => ?_)
          refine sm_goto 73 ii_mo_struck_40 (by decide) ?_
          exact sm_iret ii_mo_struck_73 rfl
        · refine sm_iload_n ii_mo_struck_43 rfl ?_
          refine sm_iconst (2 : Int32) ii_mo_struck_44 (by decide) ?_
          refine sm_icmp_ne 59 ii_mo_struck_45 (by decide) ?_ ?_
          · refine sm_aload_n ii_mo_struck_48 rfl ?_
            refine sm_iconst (0 : Int32) ii_mo_struck_49 (by decide) ?_
            refine sm_sipush (5088 : Int32) ii_mo_struck_50 (by decide) ?_
            refine sm_cvI [.int (0 : Int32), .int (5088 : Int32)] [] rfl ii_mo_struck_53 ml_mo_278 (mf_mo_struckByTwo) (mv_mo_struckByTwo) (Nat.le_of_ble_eq_true rfl) rfl 7 rfl rfl rfl rfl (mc_mo_struckByTwo ((0 : Int32)) ((5088 : Int32)) w2) (fun x5 w6 => ?_)
            refine sm_goto 73 ii_mo_struck_56 (by decide) ?_
            exact sm_iret ii_mo_struck_73 rfl
          · refine sm_aload_n ii_mo_struck_59 rfl ?_
            refine sm_iconst (0 : Int32) ii_mo_struck_60 (by decide) ?_
            refine sm_cvI [.int (0 : Int32)] [] rfl ii_mo_struck_61 ml_mo_272 (mf_mo_isDumb) (mv_mo_isDumb) (Nat.le_of_ble_eq_true rfl) rfl 7 rfl rfl rfl rfl (mc_mo_isDumb ((0 : Int32)) w2) (fun x3 w4 => ?_)
            refine sm_if_eq 71 ii_mo_struck_64 (by decide) ?_ ?_
            · refine sm_bipush (-9 : Int32) ii_mo_struck_71 (by decide) ?_
              exact sm_iret ii_mo_struck_73 rfl
            · refine sm_iconst (1 : Int32) ii_mo_struck_67 (by decide) ?_
              refine sm_goto 73 ii_mo_struck_68 (by decide) ?_
              exact sm_iret ii_mo_struck_73 rfl
set_option maxHeartbeats 4000000 in
set_option maxRecDepth 100000 in
theorem mc_mo_struck (a1 : Int32) (w : sm_Mem) : sm_MC mi_mo_struck [.ref 62, .int a1] w (ff_mo_struck a1 w) := sm_MC_of (0, fun _ => 0) (by decide +kernel) (by decide) rfl (Nat.le_of_ble_eq_true rfl) (ss_mo_struck_0 a1 w)
abbrev mi_wy_spreadReach : sm_MI := (⟨"HerOrders$Ways", "spreadReach", "()V"⟩, prog_7_method_15_code, 3, none, 1)
set_option maxRecDepth 100000 in
theorem mf_wy_spreadReach : sm_MF mi_wy_spreadReach 0 := ⟨List.mem_of_getElem? (i := 837) (by decide +kernel), List.mem_of_getElem? (i := 129) (by decide +kernel), ⟨by decide, by decide⟩, by decide +kernel⟩
set_option maxRecDepth 100000 in
theorem mv_wy_spreadReach : sm_MFV mi_wy_spreadReach := ⟨List.mem_of_getElem? (i := 836) (by decide +kernel), List.mem_of_getElem? (i := 61) (by decide +kernel)⟩
set_option maxRecDepth 100000 in
theorem ii_wy_spreadReach_0 : sm_D prog_7_method_15_code 0 1 1 (.iconst 0) := ⟨by decide +kernel, rfl⟩
set_option maxRecDepth 100000 in
theorem ii_wy_spreadReach_1 : sm_D prog_7_method_15_code 1 1 2 (.istore_n 1) := ⟨by decide +kernel, rfl⟩
set_option maxRecDepth 100000 in
theorem ii_wy_spreadReach_2 : sm_D prog_7_method_15_code 2 1 3 (.iload_n 1) := ⟨by decide +kernel, rfl⟩
set_option maxRecDepth 100000 in
theorem ii_wy_spreadReach_3 : sm_D prog_7_method_15_code 3 1 4 (.aload_n 0) := ⟨by decide +kernel, rfl⟩
set_option maxRecDepth 100000 in
theorem ii_wy_spreadReach_4 : sm_D prog_7_method_15_code 4 3 7 (.getfield 9) := ⟨by decide +kernel, rfl⟩
set_option maxRecDepth 100000 in
theorem ii_wy_spreadReach_7 : sm_D prog_7_method_15_code 7 3 10 (.getfield 84) := ⟨by decide +kernel, rfl⟩
set_option maxRecDepth 100000 in
theorem ii_wy_spreadReach_10 : sm_D prog_7_method_15_code 10 3 13 (.if_icmp .ge 53) := ⟨by decide +kernel, rfl⟩
set_option maxRecDepth 100000 in
theorem ii_wy_spreadReach_13 : sm_D prog_7_method_15_code 13 1 14 (.iconst 0) := ⟨by decide +kernel, rfl⟩
set_option maxRecDepth 100000 in
theorem ii_wy_spreadReach_14 : sm_D prog_7_method_15_code 14 1 15 (.istore_n 2) := ⟨by decide +kernel, rfl⟩
set_option maxRecDepth 100000 in
theorem ii_wy_spreadReach_15 : sm_D prog_7_method_15_code 15 1 16 (.iload_n 2) := ⟨by decide +kernel, rfl⟩
set_option maxRecDepth 100000 in
theorem ii_wy_spreadReach_16 : sm_D prog_7_method_15_code 16 1 17 (.aload_n 0) := ⟨by decide +kernel, rfl⟩
set_option maxRecDepth 100000 in
theorem ii_wy_spreadReach_17 : sm_D prog_7_method_15_code 17 3 20 (.getfield 28) := ⟨by decide +kernel, rfl⟩
set_option maxRecDepth 100000 in
theorem ii_wy_spreadReach_20 : sm_D prog_7_method_15_code 20 1 21 (.arraylength) := ⟨by decide +kernel, rfl⟩
set_option maxRecDepth 100000 in
theorem ii_wy_spreadReach_21 : sm_D prog_7_method_15_code 21 3 24 (.if_icmp .ge 36) := ⟨by decide +kernel, rfl⟩
set_option maxRecDepth 100000 in
theorem ii_wy_spreadReach_24 : sm_D prog_7_method_15_code 24 1 25 (.aload_n 0) := ⟨by decide +kernel, rfl⟩
set_option maxRecDepth 100000 in
theorem ii_wy_spreadReach_25 : sm_D prog_7_method_15_code 25 3 28 (.getfield 28) := ⟨by decide +kernel, rfl⟩
set_option maxRecDepth 100000 in
theorem ii_wy_spreadReach_28 : sm_D prog_7_method_15_code 28 1 29 (.iload_n 2) := ⟨by decide +kernel, rfl⟩
set_option maxRecDepth 100000 in
theorem ii_wy_spreadReach_29 : sm_D prog_7_method_15_code 29 1 30 (.aload_n 0) := ⟨by decide +kernel, rfl⟩
set_option maxRecDepth 100000 in
theorem ii_wy_spreadReach_30 : sm_D prog_7_method_15_code 30 3 33 (.getfield 28) := ⟨by decide +kernel, rfl⟩
set_option maxRecDepth 100000 in
theorem ii_wy_spreadReach_33 : sm_D prog_7_method_15_code 33 1 34 (.iload_n 2) := ⟨by decide +kernel, rfl⟩
set_option maxRecDepth 100000 in
theorem ii_wy_spreadReach_34 : sm_D prog_7_method_15_code 34 1 35 (.iaload) := ⟨by decide +kernel, rfl⟩
set_option maxRecDepth 100000 in
theorem ii_wy_spreadReach_35 : sm_D prog_7_method_15_code 35 1 36 (.aload_n 0) := ⟨by decide +kernel, rfl⟩
set_option maxRecDepth 100000 in
theorem ii_wy_spreadReach_36 : sm_D prog_7_method_15_code 36 3 39 (.getfield 28) := ⟨by decide +kernel, rfl⟩
set_option maxRecDepth 100000 in
theorem ii_wy_spreadReach_39 : sm_D prog_7_method_15_code 39 1 40 (.iload_n 2) := ⟨by decide +kernel, rfl⟩
set_option maxRecDepth 100000 in
theorem ii_wy_spreadReach_40 : sm_D prog_7_method_15_code 40 1 41 (.iconst 1) := ⟨by decide +kernel, rfl⟩
set_option maxRecDepth 100000 in
theorem ii_wy_spreadReach_41 : sm_D prog_7_method_15_code 41 1 42 (.iload_n 1) := ⟨by decide +kernel, rfl⟩
set_option maxRecDepth 100000 in
theorem ii_wy_spreadReach_42 : sm_D prog_7_method_15_code 42 1 43 (.ishl) := ⟨by decide +kernel, rfl⟩
set_option maxRecDepth 100000 in
theorem ii_wy_spreadReach_43 : sm_D prog_7_method_15_code 43 1 44 (.iconst (-1)) := ⟨by decide +kernel, rfl⟩
set_option maxRecDepth 100000 in
theorem ii_wy_spreadReach_44 : sm_D prog_7_method_15_code 44 1 45 (.ixor) := ⟨by decide +kernel, rfl⟩
set_option maxRecDepth 100000 in
theorem ii_wy_spreadReach_45 : sm_D prog_7_method_15_code 45 1 46 (.iand) := ⟨by decide +kernel, rfl⟩
set_option maxRecDepth 100000 in
theorem ii_wy_spreadReach_46 : sm_D prog_7_method_15_code 46 1 47 (.iaload) := ⟨by decide +kernel, rfl⟩
set_option maxRecDepth 100000 in
theorem ii_wy_spreadReach_47 : sm_D prog_7_method_15_code 47 3 50 (.invokestatic 46) := ⟨by decide +kernel, rfl⟩
set_option maxRecDepth 100000 in
theorem ii_wy_spreadReach_50 : sm_D prog_7_method_15_code 50 1 51 (.iastore) := ⟨by decide +kernel, rfl⟩
set_option maxRecDepth 100000 in
theorem ii_wy_spreadReach_51 : sm_D prog_7_method_15_code 51 3 54 (.iinc 2 1) := ⟨by decide +kernel, rfl⟩
set_option maxRecDepth 100000 in
theorem ii_wy_spreadReach_54 : sm_D prog_7_method_15_code 54 3 57 (.goto (-39)) := ⟨by decide +kernel, rfl⟩
set_option maxRecDepth 100000 in
theorem ii_wy_spreadReach_57 : sm_D prog_7_method_15_code 57 3 60 (.iinc 1 1) := ⟨by decide +kernel, rfl⟩
set_option maxRecDepth 100000 in
theorem ii_wy_spreadReach_60 : sm_D prog_7_method_15_code 60 3 63 (.goto (-58)) := ⟨by decide +kernel, rfl⟩
set_option maxRecDepth 100000 in
theorem ii_wy_spreadReach_63 : sm_D prog_7_method_15_code 63 1 64 (.return_) := ⟨by decide +kernel, rfl⟩
noncomputable def ff_wy_spreadReach_15_b (self2 : Int32 → sm_Mem → sm_R) (self15 : Int32 → Int32 → sm_Mem → sm_R) (a1 : Int32) (a2 : Int32) (w : sm_Mem) : sm_R := (Option.bind (sm_al 54) fun x1 => (if x1 ≤ a2 then self2 ((a1 + (1 : Int32))) w else (Option.bind (sm_rd w 54 64 a2) fun x2 => (Option.bind (sm_rd w 54 64 (a2 &&& (((1 : Int32) <<< (a1 &&& (31 : Int32))) ^^^ (-1 : Int32)))) fun x3 => (Option.bind (sm_wr w 54 64 a2 (if x2 < x3 then x3 else x2)) fun w4 => self15 (a1) ((a2 + (1 : Int32))) w4)))))
noncomputable def ff_wy_spreadReach_15_f (self2 : Int32 → sm_Mem → sm_R) : Nat → Int32 → Int32 → sm_Mem → sm_R
  | 0, _, _, _ => none
  | n + 1, a1, a2, w => ff_wy_spreadReach_15_b self2 (ff_wy_spreadReach_15_f self2 n) a1 a2 w
noncomputable def ff_wy_spreadReach_15 (self2 : Int32 → sm_Mem → sm_R) (a1 : Int32) (a2 : Int32) (w : sm_Mem) : sm_R := ff_wy_spreadReach_15_f self2 sm_N a1 a2 w
set_option maxHeartbeats 4000000 in
set_option maxRecDepth 100000 in
theorem ss_wy_spreadReach_15_b {E : Nat × (Nat → Int32)} (self2 : Int32 → sm_Mem → sm_R) (hself2 : ∀ (a1 : Int32) (w : sm_Mem), sm_Sim E (mi_wy_spreadReach) 2 [some (.ref 49), some (.int a1), none] [] w (self2 a1 w)) (self15 : Int32 → Int32 → sm_Mem → sm_R) (hself15 : ∀ (a1 : Int32) (a2 : Int32) (w : sm_Mem), sm_Sim E (mi_wy_spreadReach) 15 [some (.ref 49), some (.int a1), some (.int a2)] [] w (self15 a1 a2 w)) (a1 : Int32) (a2 : Int32) (w : sm_Mem) : sm_Sim E (mi_wy_spreadReach) 15 [some (.ref 49), some (.int a1), some (.int a2)] [] w (ff_wy_spreadReach_15_b self2 self15 a1 a2 w) := by
  unfold ff_wy_spreadReach_15_b
  refine sm_iload_n ii_wy_spreadReach_15 rfl ?_
  refine sm_aload_n ii_wy_spreadReach_16 rfl ?_
  refine sm_getR 54 ii_wy_spreadReach_17 fl_wy_28 (k := 49) rfl ?_
  refine sm_alen ii_wy_spreadReach_20 (fun x1 => ?_)
  refine sm_icmp_ge 57 ii_wy_spreadReach_21 (by decide) ?_ ?_
  · refine sm_iinc (a1 + (1 : Int32)) [some (.ref 49), some (.int (a1 + (1 : Int32))), some (.int a2)] ii_wy_spreadReach_57 rfl rfl rfl rfl ?_
    refine sm_goto 2 ii_wy_spreadReach_60 (by decide) ?_
    refine sm_msk [true, true, false] [some (.ref 49), some (.int (a1 + (1 : Int32))), none] rfl ?_
    exact hself2 ((a1 + (1 : Int32))) w
  · refine sm_aload_n ii_wy_spreadReach_24 rfl ?_
    refine sm_getR 54 ii_wy_spreadReach_25 fl_wy_28 (k := 49) rfl ?_
    refine sm_iload_n ii_wy_spreadReach_28 rfl ?_
    refine sm_aload_n ii_wy_spreadReach_29 rfl ?_
    refine sm_getR 54 ii_wy_spreadReach_30 fl_wy_28 (k := 49) rfl ?_
    refine sm_iload_n ii_wy_spreadReach_33 rfl ?_
    refine sm_iald ii_wy_spreadReach_34 (k := 54) rfl (fun x2 => ?_)
    refine sm_aload_n ii_wy_spreadReach_35 rfl ?_
    refine sm_getR 54 ii_wy_spreadReach_36 fl_wy_28 (k := 49) rfl ?_
    refine sm_iload_n ii_wy_spreadReach_39 rfl ?_
    refine sm_iconst (1 : Int32) ii_wy_spreadReach_40 (by decide) ?_
    refine sm_iload_n ii_wy_spreadReach_41 rfl ?_
    refine sm_ishl ii_wy_spreadReach_42 ?_
    refine sm_iconst (-1 : Int32) ii_wy_spreadReach_43 (by decide) ?_
    refine sm_ixor ii_wy_spreadReach_44 ?_
    refine sm_iand ii_wy_spreadReach_45 ?_
    refine sm_iald ii_wy_spreadReach_46 (k := 54) rfl (fun x3 => ?_)
    refine sm_mmax ii_wy_spreadReach_47 mq_wy_46 mq_st_max mq_in mq_co_max (by decide) rfl ?_
    refine sm_iast ii_wy_spreadReach_50 (k := 54) rfl (fun w4 => ?_)
    refine sm_iinc (a2 + (1 : Int32)) [some (.ref 49), some (.int a1), some (.int (a2 + (1 : Int32)))] ii_wy_spreadReach_51 rfl rfl rfl rfl ?_
    refine sm_goto 15 ii_wy_spreadReach_54 (by decide) ?_
    exact hself15 (a1) ((a2 + (1 : Int32))) w4
set_option maxHeartbeats 4000000 in
set_option maxRecDepth 100000 in
theorem ss_wy_spreadReach_15_f {E : Nat × (Nat → Int32)} (self2 : Int32 → sm_Mem → sm_R) (hself2 : ∀ (a1 : Int32) (w : sm_Mem), sm_Sim E (mi_wy_spreadReach) 2 [some (.ref 49), some (.int a1), none] [] w (self2 a1 w)) : ∀ (n : Nat) (a1 : Int32) (a2 : Int32) (w : sm_Mem), sm_Sim E (mi_wy_spreadReach) 15 [some (.ref 49), some (.int a1), some (.int a2)] [] w (ff_wy_spreadReach_15_f self2 n a1 a2 w)
  | 0, _, _, _ => fun _ _ h => by cases h
  | n + 1, a1, a2, w => ss_wy_spreadReach_15_b self2 hself2 _ (ss_wy_spreadReach_15_f self2 hself2 n) a1 a2 w
set_option maxHeartbeats 4000000 in
set_option maxRecDepth 100000 in
theorem ss_wy_spreadReach_15 {E : Nat × (Nat → Int32)} (self2 : Int32 → sm_Mem → sm_R) (hself2 : ∀ (a1 : Int32) (w : sm_Mem), sm_Sim E (mi_wy_spreadReach) 2 [some (.ref 49), some (.int a1), none] [] w (self2 a1 w)) (a1 : Int32) (a2 : Int32) (w : sm_Mem) : sm_Sim E (mi_wy_spreadReach) 15 [some (.ref 49), some (.int a1), some (.int a2)] [] w (ff_wy_spreadReach_15 self2 a1 a2 w) := ss_wy_spreadReach_15_f self2 hself2 sm_N a1 a2 w
noncomputable def ff_wy_spreadReach_2_b  (self2 : Int32 → sm_Mem → sm_R) (a1 : Int32) (w : sm_Mem) : sm_R := (if (w.1 36 0) ≤ a1 then (some (.null, w)) else ff_wy_spreadReach_15 self2 (a1) ((0 : Int32)) w)
noncomputable def ff_wy_spreadReach_2_f  : Nat → Int32 → sm_Mem → sm_R
  | 0, _, _ => none
  | n + 1, a1, w => ff_wy_spreadReach_2_b  (ff_wy_spreadReach_2_f  n) a1 w
noncomputable def ff_wy_spreadReach_2  (a1 : Int32) (w : sm_Mem) : sm_R := ff_wy_spreadReach_2_f  sm_N a1 w
set_option maxHeartbeats 4000000 in
set_option maxRecDepth 100000 in
theorem ss_wy_spreadReach_2_b {E : Nat × (Nat → Int32)}  (self2 : Int32 → sm_Mem → sm_R) (hself2 : ∀ (a1 : Int32) (w : sm_Mem), sm_Sim E (mi_wy_spreadReach) 2 [some (.ref 49), some (.int a1), none] [] w (self2 a1 w)) (a1 : Int32) (w : sm_Mem) : sm_Sim E (mi_wy_spreadReach) 2 [some (.ref 49), some (.int a1), none] [] w (ff_wy_spreadReach_2_b  self2 a1 w) := by
  unfold ff_wy_spreadReach_2_b
  refine sm_iload_n ii_wy_spreadReach_2 rfl ?_
  refine sm_aload_n ii_wy_spreadReach_3 rfl ?_
  refine sm_getR 36 ii_wy_spreadReach_4 fl_wy_9 (k := 49) rfl ?_
  refine sm_getI ii_wy_spreadReach_7 fl_wy_84 (k := 36) rfl ?_
  refine sm_icmp_ge 63 ii_wy_spreadReach_10 (by decide) ?_ ?_
  · exact sm_vret ii_wy_spreadReach_63 rfl
  · refine sm_iconst (0 : Int32) ii_wy_spreadReach_13 (by decide) ?_
    refine sm_istore_n [some (.ref 49), some (.int a1), some (.int (0 : Int32))] ii_wy_spreadReach_14 rfl rfl ?_
    exact ss_wy_spreadReach_15 self2 hself2 (a1) ((0 : Int32)) w
set_option maxHeartbeats 4000000 in
set_option maxRecDepth 100000 in
theorem ss_wy_spreadReach_2_f {E : Nat × (Nat → Int32)}  : ∀ (n : Nat) (a1 : Int32) (w : sm_Mem), sm_Sim E (mi_wy_spreadReach) 2 [some (.ref 49), some (.int a1), none] [] w (ff_wy_spreadReach_2_f  n a1 w)
  | 0, _, _ => fun _ _ h => by cases h
  | n + 1, a1, w => ss_wy_spreadReach_2_b  _ (ss_wy_spreadReach_2_f  n) a1 w
set_option maxHeartbeats 4000000 in
set_option maxRecDepth 100000 in
theorem ss_wy_spreadReach_2 {E : Nat × (Nat → Int32)}  (a1 : Int32) (w : sm_Mem) : sm_Sim E (mi_wy_spreadReach) 2 [some (.ref 49), some (.int a1), none] [] w (ff_wy_spreadReach_2  a1 w) := ss_wy_spreadReach_2_f  sm_N a1 w
noncomputable def ff_wy_spreadReach   (w : sm_Mem) : sm_R := ff_wy_spreadReach_2 ((0 : Int32)) w
set_option maxHeartbeats 4000000 in
set_option maxRecDepth 100000 in
theorem ss_wy_spreadReach_0 {E : Nat × (Nat → Int32)}   (w : sm_Mem) : sm_Sim E (mi_wy_spreadReach) 0 [some (.ref 49), none, none] [] w (ff_wy_spreadReach   w) := by
  unfold ff_wy_spreadReach
  refine sm_iconst (0 : Int32) ii_wy_spreadReach_0 (by decide) ?_
  refine sm_istore_n [some (.ref 49), some (.int (0 : Int32)), none] ii_wy_spreadReach_1 rfl rfl ?_
  exact ss_wy_spreadReach_2 ((0 : Int32)) w
set_option maxHeartbeats 4000000 in
set_option maxRecDepth 100000 in
theorem mc_wy_spreadReach  (w : sm_Mem) : sm_MC mi_wy_spreadReach [.ref 49] w (ff_wy_spreadReach  w) := sm_MC_of (0, fun _ => 0) (by decide +kernel) (by decide) rfl (Nat.le_of_ble_eq_true rfl) (ss_wy_spreadReach_0  w)
abbrev mi_wy_weightOf : sm_MI := (⟨"HerOrders$Ways", "weightOf", "(II)J"⟩, prog_7_method_16_code, 6, (some .long), 1)
set_option maxRecDepth 100000 in
theorem mf_wy_weightOf : sm_MF mi_wy_weightOf 2 := ⟨List.mem_of_getElem? (i := 842) (by decide +kernel), List.mem_of_getElem? (i := 129) (by decide +kernel), ⟨by decide, by decide⟩, by decide +kernel⟩
set_option maxRecDepth 100000 in
theorem mv_wy_weightOf : sm_MFV mi_wy_weightOf := ⟨List.mem_of_getElem? (i := 841) (by decide +kernel), List.mem_of_getElem? (i := 62) (by decide +kernel)⟩
set_option maxRecDepth 100000 in
theorem ii_wy_weightOf_0 : sm_D prog_7_method_16_code 0 1 1 (.lconst 1) := ⟨by decide +kernel, rfl⟩
set_option maxRecDepth 100000 in
theorem ii_wy_weightOf_1 : sm_D prog_7_method_16_code 1 1 2 (.lstore_n 3) := ⟨by decide +kernel, rfl⟩
set_option maxRecDepth 100000 in
theorem ii_wy_weightOf_2 : sm_D prog_7_method_16_code 2 1 3 (.iconst 0) := ⟨by decide +kernel, rfl⟩
set_option maxRecDepth 100000 in
theorem ii_wy_weightOf_3 : sm_D prog_7_method_16_code 3 2 5 (.istore 5) := ⟨by decide +kernel, rfl⟩
set_option maxRecDepth 100000 in
theorem ii_wy_weightOf_5 : sm_D prog_7_method_16_code 5 2 7 (.iload 5) := ⟨by decide +kernel, rfl⟩
set_option maxRecDepth 100000 in
theorem ii_wy_weightOf_7 : sm_D prog_7_method_16_code 7 1 8 (.aload_n 0) := ⟨by decide +kernel, rfl⟩
set_option maxRecDepth 100000 in
theorem ii_wy_weightOf_8 : sm_D prog_7_method_16_code 8 3 11 (.getfield 9) := ⟨by decide +kernel, rfl⟩
set_option maxRecDepth 100000 in
theorem ii_wy_weightOf_11 : sm_D prog_7_method_16_code 11 3 14 (.getfield 84) := ⟨by decide +kernel, rfl⟩
set_option maxRecDepth 100000 in
theorem ii_wy_weightOf_14 : sm_D prog_7_method_16_code 14 3 17 (.if_icmp .ge 31) := ⟨by decide +kernel, rfl⟩
set_option maxRecDepth 100000 in
theorem ii_wy_weightOf_17 : sm_D prog_7_method_16_code 17 1 18 (.lload_n 3) := ⟨by decide +kernel, rfl⟩
set_option maxRecDepth 100000 in
theorem ii_wy_weightOf_18 : sm_D prog_7_method_16_code 18 1 19 (.iload_n 1) := ⟨by decide +kernel, rfl⟩
set_option maxRecDepth 100000 in
theorem ii_wy_weightOf_19 : sm_D prog_7_method_16_code 19 2 21 (.iload 5) := ⟨by decide +kernel, rfl⟩
set_option maxRecDepth 100000 in
theorem ii_wy_weightOf_21 : sm_D prog_7_method_16_code 21 1 22 (.ishr) := ⟨by decide +kernel, rfl⟩
set_option maxRecDepth 100000 in
theorem ii_wy_weightOf_22 : sm_D prog_7_method_16_code 22 1 23 (.iconst 1) := ⟨by decide +kernel, rfl⟩
set_option maxRecDepth 100000 in
theorem ii_wy_weightOf_23 : sm_D prog_7_method_16_code 23 1 24 (.iand) := ⟨by decide +kernel, rfl⟩
set_option maxRecDepth 100000 in
theorem ii_wy_weightOf_24 : sm_D prog_7_method_16_code 24 3 27 (.ifCond .ne 8) := ⟨by decide +kernel, rfl⟩
set_option maxRecDepth 100000 in
theorem ii_wy_weightOf_27 : sm_D prog_7_method_16_code 27 1 28 (.iload_n 2) := ⟨by decide +kernel, rfl⟩
set_option maxRecDepth 100000 in
theorem ii_wy_weightOf_28 : sm_D prog_7_method_16_code 28 1 29 (.i2l) := ⟨by decide +kernel, rfl⟩
set_option maxRecDepth 100000 in
theorem ii_wy_weightOf_29 : sm_D prog_7_method_16_code 29 3 32 (.goto 8) := ⟨by decide +kernel, rfl⟩
set_option maxRecDepth 100000 in
theorem ii_wy_weightOf_32 : sm_D prog_7_method_16_code 32 2 34 (.bipush 12) := ⟨by decide +kernel, rfl⟩
set_option maxRecDepth 100000 in
theorem ii_wy_weightOf_34 : sm_D prog_7_method_16_code 34 1 35 (.iload_n 2) := ⟨by decide +kernel, rfl⟩
set_option maxRecDepth 100000 in
theorem ii_wy_weightOf_35 : sm_D prog_7_method_16_code 35 1 36 (.isub) := ⟨by decide +kernel, rfl⟩
set_option maxRecDepth 100000 in
theorem ii_wy_weightOf_36 : sm_D prog_7_method_16_code 36 1 37 (.i2l) := ⟨by decide +kernel, rfl⟩
set_option maxRecDepth 100000 in
theorem ii_wy_weightOf_37 : sm_D prog_7_method_16_code 37 1 38 (.lmul) := ⟨by decide +kernel, rfl⟩
set_option maxRecDepth 100000 in
theorem ii_wy_weightOf_38 : sm_D prog_7_method_16_code 38 1 39 (.lstore_n 3) := ⟨by decide +kernel, rfl⟩
set_option maxRecDepth 100000 in
theorem ii_wy_weightOf_39 : sm_D prog_7_method_16_code 39 3 42 (.iinc 5 1) := ⟨by decide +kernel, rfl⟩
set_option maxRecDepth 100000 in
theorem ii_wy_weightOf_42 : sm_D prog_7_method_16_code 42 3 45 (.goto (-37)) := ⟨by decide +kernel, rfl⟩
set_option maxRecDepth 100000 in
theorem ii_wy_weightOf_45 : sm_D prog_7_method_16_code 45 1 46 (.lload_n 3) := ⟨by decide +kernel, rfl⟩
set_option maxRecDepth 100000 in
theorem ii_wy_weightOf_46 : sm_D prog_7_method_16_code 46 1 47 (.lreturn) := ⟨by decide +kernel, rfl⟩
noncomputable def ff_wy_weightOf_37 (self5 : Int32 → Int32 → Int64 → Int32 → sm_Mem → sm_R) (a1 : Int32) (a2 : Int32) (a5 : Int32) (b0 : Int64) (b1 : Int64) (w : sm_Mem) : sm_R := self5 (a1) (a2) ((b0 * b1)) ((a5 + (1 : Int32))) w
set_option maxHeartbeats 4000000 in
set_option maxRecDepth 100000 in
theorem ss_wy_weightOf_37 {E : Nat × (Nat → Int32)} (self5 : Int32 → Int32 → Int64 → Int32 → sm_Mem → sm_R) (hself5 : ∀ (a1 : Int32) (a2 : Int32) (a3 : Int64) (a5 : Int32) (w : sm_Mem), sm_Sim E (mi_wy_weightOf) 5 [some (.ref 49), some (.int a1), some (.int a2), some (.long a3), none, some (.int a5)] [] w (self5 a1 a2 a3 a5 w)) (a1 : Int32) (a2 : Int32) (a5 : Int32) (b0 : Int64) (b1 : Int64) (w : sm_Mem) : sm_Sim E (mi_wy_weightOf) 37 [some (.ref 49), some (.int a1), some (.int a2), none, none, some (.int a5)] [.long b1, .long b0] w (ff_wy_weightOf_37 self5 a1 a2 a5 b0 b1 w) := by
  unfold ff_wy_weightOf_37
  refine sm_lmul ii_wy_weightOf_37 ?_
  refine sm_lstore_n [some (.ref 49), some (.int a1), some (.int a2), some (.long (b0 * b1)), none, some (.int a5)] ii_wy_weightOf_38 rfl rfl ?_
  refine sm_iinc (a5 + (1 : Int32)) [some (.ref 49), some (.int a1), some (.int a2), some (.long (b0 * b1)), none, some (.int (a5 + (1 : Int32)))] ii_wy_weightOf_39 rfl rfl rfl rfl ?_
  refine sm_goto 5 ii_wy_weightOf_42 (by decide) ?_
  exact hself5 (a1) (a2) ((b0 * b1)) ((a5 + (1 : Int32))) w
noncomputable def ff_wy_weightOf_5_b  (self5 : Int32 → Int32 → Int64 → Int32 → sm_Mem → sm_R) (a1 : Int32) (a2 : Int32) (a3 : Int64) (a5 : Int32) (w : sm_Mem) : sm_R := (if (w.1 36 0) ≤ a5 then (some (.long a3, w)) else (if ((a1 >>> (a5 &&& (31 : Int32))) &&& (1 : Int32)) = (0 : Int32) then ff_wy_weightOf_37 self5 (a1) (a2) (a5) (a3) ((Int32.toInt64 a2)) w else ff_wy_weightOf_37 self5 (a1) (a2) (a5) (a3) ((Int32.toInt64 ((12 : Int32) - a2))) w))
noncomputable def ff_wy_weightOf_5_f  : Nat → Int32 → Int32 → Int64 → Int32 → sm_Mem → sm_R
  | 0, _, _, _, _, _ => none
  | n + 1, a1, a2, a3, a5, w => ff_wy_weightOf_5_b  (ff_wy_weightOf_5_f  n) a1 a2 a3 a5 w
noncomputable def ff_wy_weightOf_5  (a1 : Int32) (a2 : Int32) (a3 : Int64) (a5 : Int32) (w : sm_Mem) : sm_R := ff_wy_weightOf_5_f  sm_N a1 a2 a3 a5 w
set_option maxHeartbeats 4000000 in
set_option maxRecDepth 100000 in
theorem ss_wy_weightOf_5_b {E : Nat × (Nat → Int32)}  (self5 : Int32 → Int32 → Int64 → Int32 → sm_Mem → sm_R) (hself5 : ∀ (a1 : Int32) (a2 : Int32) (a3 : Int64) (a5 : Int32) (w : sm_Mem), sm_Sim E (mi_wy_weightOf) 5 [some (.ref 49), some (.int a1), some (.int a2), some (.long a3), none, some (.int a5)] [] w (self5 a1 a2 a3 a5 w)) (a1 : Int32) (a2 : Int32) (a3 : Int64) (a5 : Int32) (w : sm_Mem) : sm_Sim E (mi_wy_weightOf) 5 [some (.ref 49), some (.int a1), some (.int a2), some (.long a3), none, some (.int a5)] [] w (ff_wy_weightOf_5_b  self5 a1 a2 a3 a5 w) := by
  unfold ff_wy_weightOf_5_b
  refine sm_iload ii_wy_weightOf_5 rfl ?_
  refine sm_aload_n ii_wy_weightOf_7 rfl ?_
  refine sm_getR 36 ii_wy_weightOf_8 fl_wy_9 (k := 49) rfl ?_
  refine sm_getI ii_wy_weightOf_11 fl_wy_84 (k := 36) rfl ?_
  refine sm_icmp_ge 45 ii_wy_weightOf_14 (by decide) ?_ ?_
  · refine sm_lload_n ii_wy_weightOf_45 rfl ?_
    exact sm_lret ii_wy_weightOf_46 rfl
  · refine sm_lload_n ii_wy_weightOf_17 rfl ?_
    refine sm_iload_n ii_wy_weightOf_18 rfl ?_
    refine sm_iload ii_wy_weightOf_19 rfl ?_
    refine sm_ishr ii_wy_weightOf_21 ?_
    refine sm_iconst (1 : Int32) ii_wy_weightOf_22 (by decide) ?_
    refine sm_iand ii_wy_weightOf_23 ?_
    refine sm_if_ne 32 ii_wy_weightOf_24 (by decide) ?_ ?_
    · refine sm_iload_n ii_wy_weightOf_27 rfl ?_
      refine sm_i2l ii_wy_weightOf_28 ?_
      refine sm_goto 37 ii_wy_weightOf_29 (by decide) ?_
      refine sm_msk [true, true, true, false, false, true] [some (.ref 49), some (.int a1), some (.int a2), none, none, some (.int a5)] rfl ?_
      exact ss_wy_weightOf_37 self5 hself5 (a1) (a2) (a5) (a3) ((Int32.toInt64 a2)) w
    · refine sm_bipush (12 : Int32) ii_wy_weightOf_32 (by decide) ?_
      refine sm_iload_n ii_wy_weightOf_34 rfl ?_
      refine sm_isub ii_wy_weightOf_35 ?_
      refine sm_i2l ii_wy_weightOf_36 ?_
      refine sm_msk [true, true, true, false, false, true] [some (.ref 49), some (.int a1), some (.int a2), none, none, some (.int a5)] rfl ?_
      exact ss_wy_weightOf_37 self5 hself5 (a1) (a2) (a5) (a3) ((Int32.toInt64 ((12 : Int32) - a2))) w
set_option maxHeartbeats 4000000 in
set_option maxRecDepth 100000 in
theorem ss_wy_weightOf_5_f {E : Nat × (Nat → Int32)}  : ∀ (n : Nat) (a1 : Int32) (a2 : Int32) (a3 : Int64) (a5 : Int32) (w : sm_Mem), sm_Sim E (mi_wy_weightOf) 5 [some (.ref 49), some (.int a1), some (.int a2), some (.long a3), none, some (.int a5)] [] w (ff_wy_weightOf_5_f  n a1 a2 a3 a5 w)
  | 0, _, _, _, _, _ => fun _ _ h => by cases h
  | n + 1, a1, a2, a3, a5, w => ss_wy_weightOf_5_b  _ (ss_wy_weightOf_5_f  n) a1 a2 a3 a5 w
set_option maxHeartbeats 4000000 in
set_option maxRecDepth 100000 in
theorem ss_wy_weightOf_5 {E : Nat × (Nat → Int32)}  (a1 : Int32) (a2 : Int32) (a3 : Int64) (a5 : Int32) (w : sm_Mem) : sm_Sim E (mi_wy_weightOf) 5 [some (.ref 49), some (.int a1), some (.int a2), some (.long a3), none, some (.int a5)] [] w (ff_wy_weightOf_5  a1 a2 a3 a5 w) := ss_wy_weightOf_5_f  sm_N a1 a2 a3 a5 w
noncomputable def ff_wy_weightOf  (a1 : Int32) (a2 : Int32) (w : sm_Mem) : sm_R := ff_wy_weightOf_5 (a1) (a2) ((1 : Int64)) ((0 : Int32)) w
set_option maxHeartbeats 4000000 in
set_option maxRecDepth 100000 in
theorem ss_wy_weightOf_0 {E : Nat × (Nat → Int32)}  (a1 : Int32) (a2 : Int32) (w : sm_Mem) : sm_Sim E (mi_wy_weightOf) 0 [some (.ref 49), some (.int a1), some (.int a2), none, none, none] [] w (ff_wy_weightOf  a1 a2 w) := by
  unfold ff_wy_weightOf
  refine sm_lconst (1 : Int64) ii_wy_weightOf_0 (by decide) ?_
  refine sm_lstore_n [some (.ref 49), some (.int a1), some (.int a2), some (.long (1 : Int64)), none, none] ii_wy_weightOf_1 rfl rfl ?_
  refine sm_iconst (0 : Int32) ii_wy_weightOf_2 (by decide) ?_
  refine sm_istore [some (.ref 49), some (.int a1), some (.int a2), some (.long (1 : Int64)), none, some (.int (0 : Int32))] ii_wy_weightOf_3 rfl rfl ?_
  exact ss_wy_weightOf_5 (a1) (a2) ((1 : Int64)) ((0 : Int32)) w
set_option maxHeartbeats 4000000 in
set_option maxRecDepth 100000 in
theorem mc_wy_weightOf (a1 : Int32) (a2 : Int32) (w : sm_Mem) : sm_MC mi_wy_weightOf [.ref 49, .int a1, .int a2] w (ff_wy_weightOf a1 a2 w) := sm_MC_of (0, fun _ => 0) (by decide +kernel) (by decide) rfl (Nat.le_of_ble_eq_true rfl) (ss_wy_weightOf_0 a1 a2 w)
abbrev mi_wy_weightOfFull : sm_MI := (⟨"HerOrders$Ways", "weightOfFull", "(I)J"⟩, prog_7_method_13_code, 5, (some .long), 2)
set_option maxRecDepth 100000 in
theorem mf_wy_weightOfFull : sm_MF mi_wy_weightOfFull 1 := ⟨List.mem_of_getElem? (i := 833) (by decide +kernel), List.mem_of_getElem? (i := 129) (by decide +kernel), ⟨by decide, by decide⟩, by decide +kernel⟩
set_option maxRecDepth 100000 in
theorem mv_wy_weightOfFull : sm_MFV mi_wy_weightOfFull := ⟨List.mem_of_getElem? (i := 832) (by decide +kernel), List.mem_of_getElem? (i := 60) (by decide +kernel)⟩
set_option maxRecDepth 100000 in
theorem ii_wy_weightOfFull_0 : sm_D prog_7_method_13_code 0 1 1 (.aload_n 0) := ⟨by decide +kernel, rfl⟩
set_option maxRecDepth 100000 in
theorem ii_wy_weightOfFull_1 : sm_D prog_7_method_13_code 1 3 4 (.invokevirtual 120) := ⟨by decide +kernel, rfl⟩
set_option maxRecDepth 100000 in
theorem ii_wy_weightOfFull_4 : sm_D prog_7_method_13_code 4 1 5 (.lconst 0) := ⟨by decide +kernel, rfl⟩
set_option maxRecDepth 100000 in
theorem ii_wy_weightOfFull_5 : sm_D prog_7_method_13_code 5 1 6 (.lstore_n 2) := ⟨by decide +kernel, rfl⟩
set_option maxRecDepth 100000 in
theorem ii_wy_weightOfFull_6 : sm_D prog_7_method_13_code 6 1 7 (.iconst 0) := ⟨by decide +kernel, rfl⟩
set_option maxRecDepth 100000 in
theorem ii_wy_weightOfFull_7 : sm_D prog_7_method_13_code 7 2 9 (.istore 4) := ⟨by decide +kernel, rfl⟩
set_option maxRecDepth 100000 in
theorem ii_wy_weightOfFull_9 : sm_D prog_7_method_13_code 9 2 11 (.iload 4) := ⟨by decide +kernel, rfl⟩
set_option maxRecDepth 100000 in
theorem ii_wy_weightOfFull_11 : sm_D prog_7_method_13_code 11 1 12 (.aload_n 0) := ⟨by decide +kernel, rfl⟩
set_option maxRecDepth 100000 in
theorem ii_wy_weightOfFull_12 : sm_D prog_7_method_13_code 12 3 15 (.getfield 9) := ⟨by decide +kernel, rfl⟩
set_option maxRecDepth 100000 in
theorem ii_wy_weightOfFull_15 : sm_D prog_7_method_13_code 15 3 18 (.invokevirtual 123) := ⟨by decide +kernel, rfl⟩
set_option maxRecDepth 100000 in
theorem ii_wy_weightOfFull_18 : sm_D prog_7_method_13_code 18 3 21 (.if_icmp .gt 33) := ⟨by decide +kernel, rfl⟩
set_option maxRecDepth 100000 in
theorem ii_wy_weightOfFull_21 : sm_D prog_7_method_13_code 21 1 22 (.aload_n 0) := ⟨by decide +kernel, rfl⟩
set_option maxRecDepth 100000 in
theorem ii_wy_weightOfFull_22 : sm_D prog_7_method_13_code 22 3 25 (.getfield 28) := ⟨by decide +kernel, rfl⟩
set_option maxRecDepth 100000 in
theorem ii_wy_weightOfFull_25 : sm_D prog_7_method_13_code 25 2 27 (.iload 4) := ⟨by decide +kernel, rfl⟩
set_option maxRecDepth 100000 in
theorem ii_wy_weightOfFull_27 : sm_D prog_7_method_13_code 27 1 28 (.iaload) := ⟨by decide +kernel, rfl⟩
set_option maxRecDepth 100000 in
theorem ii_wy_weightOfFull_28 : sm_D prog_7_method_13_code 28 1 29 (.aload_n 0) := ⟨by decide +kernel, rfl⟩
set_option maxRecDepth 100000 in
theorem ii_wy_weightOfFull_29 : sm_D prog_7_method_13_code 29 3 32 (.getfield 49) := ⟨by decide +kernel, rfl⟩
set_option maxRecDepth 100000 in
theorem ii_wy_weightOfFull_32 : sm_D prog_7_method_13_code 32 3 35 (.if_icmp .ne 13) := ⟨by decide +kernel, rfl⟩
set_option maxRecDepth 100000 in
theorem ii_wy_weightOfFull_35 : sm_D prog_7_method_13_code 35 1 36 (.lload_n 2) := ⟨by decide +kernel, rfl⟩
set_option maxRecDepth 100000 in
theorem ii_wy_weightOfFull_36 : sm_D prog_7_method_13_code 36 1 37 (.aload_n 0) := ⟨by decide +kernel, rfl⟩
set_option maxRecDepth 100000 in
theorem ii_wy_weightOfFull_37 : sm_D prog_7_method_13_code 37 2 39 (.iload 4) := ⟨by decide +kernel, rfl⟩
set_option maxRecDepth 100000 in
theorem ii_wy_weightOfFull_39 : sm_D prog_7_method_13_code 39 1 40 (.iload_n 1) := ⟨by decide +kernel, rfl⟩
set_option maxRecDepth 100000 in
theorem ii_wy_weightOfFull_40 : sm_D prog_7_method_13_code 40 3 43 (.invokevirtual 126) := ⟨by decide +kernel, rfl⟩
set_option maxRecDepth 100000 in
theorem ii_wy_weightOfFull_43 : sm_D prog_7_method_13_code 43 1 44 (.ladd) := ⟨by decide +kernel, rfl⟩
set_option maxRecDepth 100000 in
theorem ii_wy_weightOfFull_44 : sm_D prog_7_method_13_code 44 1 45 (.lstore_n 2) := ⟨by decide +kernel, rfl⟩
set_option maxRecDepth 100000 in
theorem ii_wy_weightOfFull_45 : sm_D prog_7_method_13_code 45 3 48 (.iinc 4 1) := ⟨by decide +kernel, rfl⟩
set_option maxRecDepth 100000 in
theorem ii_wy_weightOfFull_48 : sm_D prog_7_method_13_code 48 3 51 (.goto (-39)) := ⟨by decide +kernel, rfl⟩
set_option maxRecDepth 100000 in
theorem ii_wy_weightOfFull_51 : sm_D prog_7_method_13_code 51 1 52 (.lload_n 2) := ⟨by decide +kernel, rfl⟩
set_option maxRecDepth 100000 in
theorem ii_wy_weightOfFull_52 : sm_D prog_7_method_13_code 52 1 53 (.lreturn) := ⟨by decide +kernel, rfl⟩
noncomputable def ff_wy_weightOfFull_9_b  (self9 : Int32 → Int64 → Int32 → sm_Mem → sm_R) (a1 : Int32) (a2 : Int64) (a4 : Int32) (w : sm_Mem) : sm_R := (sm_cI (ff_hs_allSpeakers  w) fun x1 w2 => (if x1 < a4 then (some (.long a2, w2)) else (Option.bind (sm_rd w2 54 64 a4) fun x3 => (if x3 = (w2.1 49 3) then (sm_cL (ff_wy_weightOf (a4) (a1) w2) fun x4 w5 => self9 (a1) ((a2 + x4)) ((a4 + (1 : Int32))) w5) else self9 (a1) (a2) ((a4 + (1 : Int32))) w2))))
noncomputable def ff_wy_weightOfFull_9_f  : Nat → Int32 → Int64 → Int32 → sm_Mem → sm_R
  | 0, _, _, _, _ => none
  | n + 1, a1, a2, a4, w => ff_wy_weightOfFull_9_b  (ff_wy_weightOfFull_9_f  n) a1 a2 a4 w
noncomputable def ff_wy_weightOfFull_9  (a1 : Int32) (a2 : Int64) (a4 : Int32) (w : sm_Mem) : sm_R := ff_wy_weightOfFull_9_f  sm_N a1 a2 a4 w
set_option maxHeartbeats 4000000 in
set_option maxRecDepth 100000 in
theorem ss_wy_weightOfFull_9_b {E : Nat × (Nat → Int32)}  (self9 : Int32 → Int64 → Int32 → sm_Mem → sm_R) (hself9 : ∀ (a1 : Int32) (a2 : Int64) (a4 : Int32) (w : sm_Mem), sm_Sim E (mi_wy_weightOfFull) 9 [some (.ref 49), some (.int a1), some (.long a2), none, some (.int a4)] [] w (self9 a1 a2 a4 w)) (a1 : Int32) (a2 : Int64) (a4 : Int32) (w : sm_Mem) : sm_Sim E (mi_wy_weightOfFull) 9 [some (.ref 49), some (.int a1), some (.long a2), none, some (.int a4)] [] w (ff_wy_weightOfFull_9_b  self9 a1 a2 a4 w) := by
  unfold ff_wy_weightOfFull_9_b
  refine sm_iload ii_wy_weightOfFull_9 rfl ?_
  refine sm_aload_n ii_wy_weightOfFull_11 rfl ?_
  refine sm_getR 36 ii_wy_weightOfFull_12 fl_wy_9 (k := 49) rfl ?_
  refine sm_cvI [] [.int a4] rfl ii_wy_weightOfFull_15 ml_wy_123 (mf_hs_allSpeakers) (mv_hs_allSpeakers) (Nat.le_of_ble_eq_true rfl) rfl 1 rfl rfl rfl rfl (mc_hs_allSpeakers  w) (fun x1 w2 => ?_)
  refine sm_icmp_gt 51 ii_wy_weightOfFull_18 (by decide) ?_ ?_
  · refine sm_lload_n ii_wy_weightOfFull_51 rfl ?_
    exact sm_lret ii_wy_weightOfFull_52 rfl
  · refine sm_aload_n ii_wy_weightOfFull_21 rfl ?_
    refine sm_getR 54 ii_wy_weightOfFull_22 fl_wy_28 (k := 49) rfl ?_
    refine sm_iload ii_wy_weightOfFull_25 rfl ?_
    refine sm_iald ii_wy_weightOfFull_27 (k := 54) rfl (fun x3 => ?_)
    refine sm_aload_n ii_wy_weightOfFull_28 rfl ?_
    refine sm_getI ii_wy_weightOfFull_29 fl_wy_49 (k := 49) rfl ?_
    refine sm_icmp_ne 45 ii_wy_weightOfFull_32 (by decide) ?_ ?_
    · refine sm_lload_n ii_wy_weightOfFull_35 rfl ?_
      refine sm_aload_n ii_wy_weightOfFull_36 rfl ?_
      refine sm_iload ii_wy_weightOfFull_37 rfl ?_
      refine sm_iload_n ii_wy_weightOfFull_39 rfl ?_
      refine sm_cvL [.int a4, .int a1] [.long a2] rfl ii_wy_weightOfFull_40 ml_wy_126 (mf_wy_weightOf) (mv_wy_weightOf) (Nat.le_of_ble_eq_true rfl) rfl 5 rfl rfl rfl rfl (mc_wy_weightOf (a4) (a1) w2) (fun x4 w5 => ?_)
      refine sm_ladd ii_wy_weightOfFull_43 ?_
      refine sm_lstore_n [some (.ref 49), some (.int a1), some (.long (a2 + x4)), none, some (.int a4)] ii_wy_weightOfFull_44 rfl rfl ?_
      refine sm_iinc (a4 + (1 : Int32)) [some (.ref 49), some (.int a1), some (.long (a2 + x4)), none, some (.int (a4 + (1 : Int32)))] ii_wy_weightOfFull_45 rfl rfl rfl rfl ?_
      refine sm_goto 9 ii_wy_weightOfFull_48 (by decide) ?_
      exact hself9 (a1) ((a2 + x4)) ((a4 + (1 : Int32))) w5
    · refine sm_iinc (a4 + (1 : Int32)) [some (.ref 49), some (.int a1), some (.long a2), none, some (.int (a4 + (1 : Int32)))] ii_wy_weightOfFull_45 rfl rfl rfl rfl ?_
      refine sm_goto 9 ii_wy_weightOfFull_48 (by decide) ?_
      exact hself9 (a1) (a2) ((a4 + (1 : Int32))) w2
set_option maxHeartbeats 4000000 in
set_option maxRecDepth 100000 in
theorem ss_wy_weightOfFull_9_f {E : Nat × (Nat → Int32)}  : ∀ (n : Nat) (a1 : Int32) (a2 : Int64) (a4 : Int32) (w : sm_Mem), sm_Sim E (mi_wy_weightOfFull) 9 [some (.ref 49), some (.int a1), some (.long a2), none, some (.int a4)] [] w (ff_wy_weightOfFull_9_f  n a1 a2 a4 w)
  | 0, _, _, _, _ => fun _ _ h => by cases h
  | n + 1, a1, a2, a4, w => ss_wy_weightOfFull_9_b  _ (ss_wy_weightOfFull_9_f  n) a1 a2 a4 w
set_option maxHeartbeats 4000000 in
set_option maxRecDepth 100000 in
theorem ss_wy_weightOfFull_9 {E : Nat × (Nat → Int32)}  (a1 : Int32) (a2 : Int64) (a4 : Int32) (w : sm_Mem) : sm_Sim E (mi_wy_weightOfFull) 9 [some (.ref 49), some (.int a1), some (.long a2), none, some (.int a4)] [] w (ff_wy_weightOfFull_9  a1 a2 a4 w) := ss_wy_weightOfFull_9_f  sm_N a1 a2 a4 w
noncomputable def ff_wy_weightOfFull  (a1 : Int32) (w : sm_Mem) : sm_R := (sm_cV (ff_wy_spreadReach  w) fun w7 => ff_wy_weightOfFull_9 (a1) ((0 : Int64)) ((0 : Int32)) w7)
set_option maxHeartbeats 4000000 in
set_option maxRecDepth 100000 in
theorem ss_wy_weightOfFull_0 {E : Nat × (Nat → Int32)}  (a1 : Int32) (w : sm_Mem) : sm_Sim E (mi_wy_weightOfFull) 0 [some (.ref 49), some (.int a1), none, none, none] [] w (ff_wy_weightOfFull  a1 w) := by
  unfold ff_wy_weightOfFull
  refine sm_aload_n ii_wy_weightOfFull_0 rfl ?_
  refine sm_cvV [] [] rfl ii_wy_weightOfFull_1 ml_wy_120 (mf_wy_spreadReach) (mv_wy_spreadReach) (Nat.le_of_ble_eq_true rfl) rfl 5 rfl rfl rfl rfl (mc_wy_spreadReach  w) (fun w7 => ?_)
  refine sm_lconst (0 : Int64) ii_wy_weightOfFull_4 (by decide) ?_
  refine sm_lstore_n [some (.ref 49), some (.int a1), some (.long (0 : Int64)), none, none] ii_wy_weightOfFull_5 rfl rfl ?_
  refine sm_iconst (0 : Int32) ii_wy_weightOfFull_6 (by decide) ?_
  refine sm_istore [some (.ref 49), some (.int a1), some (.long (0 : Int64)), none, some (.int (0 : Int32))] ii_wy_weightOfFull_7 rfl rfl ?_
  exact ss_wy_weightOfFull_9 (a1) ((0 : Int64)) ((0 : Int32)) w7
set_option maxHeartbeats 4000000 in
set_option maxRecDepth 100000 in
theorem mc_wy_weightOfFull (a1 : Int32) (w : sm_Mem) : sm_MC mi_wy_weightOfFull [.ref 49, .int a1] w (ff_wy_weightOfFull a1 w) := sm_MC_of (0, fun _ => 0) (by decide +kernel) (by decide) rfl (Nat.le_of_ble_eq_true rfl) (ss_wy_weightOfFull_0 a1 w)
abbrev mi_wy_weightOfAny : sm_MI := (⟨"HerOrders$Ways", "weightOfAny", "()J"⟩, prog_7_method_12_code, 4, (some .long), 1)
set_option maxRecDepth 100000 in
theorem mf_wy_weightOfAny : sm_MF mi_wy_weightOfAny 0 := ⟨List.mem_of_getElem? (i := 846) (by decide +kernel), List.mem_of_getElem? (i := 129) (by decide +kernel), ⟨by decide, by decide⟩, by decide +kernel⟩
set_option maxRecDepth 100000 in
theorem mv_wy_weightOfAny : sm_MFV mi_wy_weightOfAny := ⟨List.mem_of_getElem? (i := 845) (by decide +kernel), List.mem_of_getElem? (i := 63) (by decide +kernel)⟩
set_option maxRecDepth 100000 in
theorem ii_wy_weightOfAny_0 : sm_D prog_7_method_12_code 0 1 1 (.lconst 1) := ⟨by decide +kernel, rfl⟩
set_option maxRecDepth 100000 in
theorem ii_wy_weightOfAny_1 : sm_D prog_7_method_12_code 1 1 2 (.lstore_n 1) := ⟨by decide +kernel, rfl⟩
set_option maxRecDepth 100000 in
theorem ii_wy_weightOfAny_2 : sm_D prog_7_method_12_code 2 1 3 (.iconst 0) := ⟨by decide +kernel, rfl⟩
set_option maxRecDepth 100000 in
theorem ii_wy_weightOfAny_3 : sm_D prog_7_method_12_code 3 1 4 (.istore_n 3) := ⟨by decide +kernel, rfl⟩
set_option maxRecDepth 100000 in
theorem ii_wy_weightOfAny_4 : sm_D prog_7_method_12_code 4 1 5 (.iload_n 3) := ⟨by decide +kernel, rfl⟩
set_option maxRecDepth 100000 in
theorem ii_wy_weightOfAny_5 : sm_D prog_7_method_12_code 5 1 6 (.aload_n 0) := ⟨by decide +kernel, rfl⟩
set_option maxRecDepth 100000 in
theorem ii_wy_weightOfAny_6 : sm_D prog_7_method_12_code 6 3 9 (.getfield 9) := ⟨by decide +kernel, rfl⟩
set_option maxRecDepth 100000 in
theorem ii_wy_weightOfAny_9 : sm_D prog_7_method_12_code 9 3 12 (.getfield 84) := ⟨by decide +kernel, rfl⟩
set_option maxRecDepth 100000 in
theorem ii_wy_weightOfAny_12 : sm_D prog_7_method_12_code 12 3 15 (.if_icmp .ge 15) := ⟨by decide +kernel, rfl⟩
set_option maxRecDepth 100000 in
theorem ii_wy_weightOfAny_15 : sm_D prog_7_method_12_code 15 1 16 (.lload_n 1) := ⟨by decide +kernel, rfl⟩
set_option maxRecDepth 100000 in
theorem ii_wy_weightOfAny_16 : sm_D prog_7_method_12_code 16 3 19 (.ldc2_w 118) := ⟨by decide +kernel, rfl⟩
set_option maxRecDepth 100000 in
theorem ii_wy_weightOfAny_19 : sm_D prog_7_method_12_code 19 1 20 (.lmul) := ⟨by decide +kernel, rfl⟩
set_option maxRecDepth 100000 in
theorem ii_wy_weightOfAny_20 : sm_D prog_7_method_12_code 20 1 21 (.lstore_n 1) := ⟨by decide +kernel, rfl⟩
set_option maxRecDepth 100000 in
theorem ii_wy_weightOfAny_21 : sm_D prog_7_method_12_code 21 3 24 (.iinc 3 1) := ⟨by decide +kernel, rfl⟩
set_option maxRecDepth 100000 in
theorem ii_wy_weightOfAny_24 : sm_D prog_7_method_12_code 24 3 27 (.goto (-20)) := ⟨by decide +kernel, rfl⟩
set_option maxRecDepth 100000 in
theorem ii_wy_weightOfAny_27 : sm_D prog_7_method_12_code 27 1 28 (.lload_n 1) := ⟨by decide +kernel, rfl⟩
set_option maxRecDepth 100000 in
theorem ii_wy_weightOfAny_28 : sm_D prog_7_method_12_code 28 1 29 (.lreturn) := ⟨by decide +kernel, rfl⟩
noncomputable def ff_wy_weightOfAny_4_b  (self4 : Int64 → Int32 → sm_Mem → sm_R) (a1 : Int64) (a3 : Int32) (w : sm_Mem) : sm_R := (if (w.1 36 0) ≤ a3 then (some (.long a1, w)) else self4 ((a1 * (12 : Int64))) ((a3 + (1 : Int32))) w)
noncomputable def ff_wy_weightOfAny_4_f  : Nat → Int64 → Int32 → sm_Mem → sm_R
  | 0, _, _, _ => none
  | n + 1, a1, a3, w => ff_wy_weightOfAny_4_b  (ff_wy_weightOfAny_4_f  n) a1 a3 w
noncomputable def ff_wy_weightOfAny_4  (a1 : Int64) (a3 : Int32) (w : sm_Mem) : sm_R := ff_wy_weightOfAny_4_f  sm_N a1 a3 w
set_option maxHeartbeats 4000000 in
set_option maxRecDepth 100000 in
theorem ss_wy_weightOfAny_4_b {E : Nat × (Nat → Int32)}  (self4 : Int64 → Int32 → sm_Mem → sm_R) (hself4 : ∀ (a1 : Int64) (a3 : Int32) (w : sm_Mem), sm_Sim E (mi_wy_weightOfAny) 4 [some (.ref 49), some (.long a1), none, some (.int a3)] [] w (self4 a1 a3 w)) (a1 : Int64) (a3 : Int32) (w : sm_Mem) : sm_Sim E (mi_wy_weightOfAny) 4 [some (.ref 49), some (.long a1), none, some (.int a3)] [] w (ff_wy_weightOfAny_4_b  self4 a1 a3 w) := by
  unfold ff_wy_weightOfAny_4_b
  refine sm_iload_n ii_wy_weightOfAny_4 rfl ?_
  refine sm_aload_n ii_wy_weightOfAny_5 rfl ?_
  refine sm_getR 36 ii_wy_weightOfAny_6 fl_wy_9 (k := 49) rfl ?_
  refine sm_getI ii_wy_weightOfAny_9 fl_wy_84 (k := 36) rfl ?_
  refine sm_icmp_ge 27 ii_wy_weightOfAny_12 (by decide) ?_ ?_
  · refine sm_lload_n ii_wy_weightOfAny_27 rfl ?_
    exact sm_lret ii_wy_weightOfAny_28 rfl
  · refine sm_lload_n ii_wy_weightOfAny_15 rfl ?_
    refine sm_ldc2 (12 : Int64) ii_wy_weightOfAny_16 (List.mem_of_getElem? (i := 847) (by decide +kernel)) ?_
    refine sm_lmul ii_wy_weightOfAny_19 ?_
    refine sm_lstore_n [some (.ref 49), some (.long (a1 * (12 : Int64))), none, some (.int a3)] ii_wy_weightOfAny_20 rfl rfl ?_
    refine sm_iinc (a3 + (1 : Int32)) [some (.ref 49), some (.long (a1 * (12 : Int64))), none, some (.int (a3 + (1 : Int32)))] ii_wy_weightOfAny_21 rfl rfl rfl rfl ?_
    refine sm_goto 4 ii_wy_weightOfAny_24 (by decide) ?_
    exact hself4 ((a1 * (12 : Int64))) ((a3 + (1 : Int32))) w
set_option maxHeartbeats 4000000 in
set_option maxRecDepth 100000 in
theorem ss_wy_weightOfAny_4_f {E : Nat × (Nat → Int32)}  : ∀ (n : Nat) (a1 : Int64) (a3 : Int32) (w : sm_Mem), sm_Sim E (mi_wy_weightOfAny) 4 [some (.ref 49), some (.long a1), none, some (.int a3)] [] w (ff_wy_weightOfAny_4_f  n a1 a3 w)
  | 0, _, _, _ => fun _ _ h => by cases h
  | n + 1, a1, a3, w => ss_wy_weightOfAny_4_b  _ (ss_wy_weightOfAny_4_f  n) a1 a3 w
set_option maxHeartbeats 4000000 in
set_option maxRecDepth 100000 in
theorem ss_wy_weightOfAny_4 {E : Nat × (Nat → Int32)}  (a1 : Int64) (a3 : Int32) (w : sm_Mem) : sm_Sim E (mi_wy_weightOfAny) 4 [some (.ref 49), some (.long a1), none, some (.int a3)] [] w (ff_wy_weightOfAny_4  a1 a3 w) := ss_wy_weightOfAny_4_f  sm_N a1 a3 w
noncomputable def ff_wy_weightOfAny   (w : sm_Mem) : sm_R := ff_wy_weightOfAny_4 ((1 : Int64)) ((0 : Int32)) w
set_option maxHeartbeats 4000000 in
set_option maxRecDepth 100000 in
theorem ss_wy_weightOfAny_0 {E : Nat × (Nat → Int32)}   (w : sm_Mem) : sm_Sim E (mi_wy_weightOfAny) 0 [some (.ref 49), none, none, none] [] w (ff_wy_weightOfAny   w) := by
  unfold ff_wy_weightOfAny
  refine sm_lconst (1 : Int64) ii_wy_weightOfAny_0 (by decide) ?_
  refine sm_lstore_n [some (.ref 49), some (.long (1 : Int64)), none, none] ii_wy_weightOfAny_1 rfl rfl ?_
  refine sm_iconst (0 : Int32) ii_wy_weightOfAny_2 (by decide) ?_
  refine sm_istore_n [some (.ref 49), some (.long (1 : Int64)), none, some (.int (0 : Int32))] ii_wy_weightOfAny_3 rfl rfl ?_
  exact ss_wy_weightOfAny_4 ((1 : Int64)) ((0 : Int32)) w
set_option maxHeartbeats 4000000 in
set_option maxRecDepth 100000 in
theorem mc_wy_weightOfAny  (w : sm_Mem) : sm_MC mi_wy_weightOfAny [.ref 49] w (ff_wy_weightOfAny  w) := sm_MC_of (0, fun _ => 0) (by decide +kernel) (by decide) rfl (Nat.le_of_ble_eq_true rfl) (ss_wy_weightOfAny_0  w)
abbrev mi_ho_odds : sm_MI := (⟨"HerOrders", "odds", "(II)I"⟩, prog_1_method_36_code, 4, (some .int), 15)
set_option maxRecDepth 100000 in
theorem mf_ho_odds : sm_MF mi_ho_odds 2 := ⟨List.mem_of_getElem? (i := 829) (by decide +kernel), List.mem_of_getElem? (i := 124) (by decide +kernel), ⟨by decide, by decide⟩, by decide +kernel⟩
set_option maxRecDepth 100000 in
theorem mv_ho_odds : sm_MFV mi_ho_odds := ⟨List.mem_of_getElem? (i := 827) (by decide +kernel), List.mem_of_getElem? (i := 828) (by decide +kernel)⟩
set_option maxRecDepth 100000 in
theorem ii_ho_odds_0 : sm_D prog_1_method_36_code 0 1 1 (.iload_n 2) := ⟨by decide +kernel, rfl⟩
set_option maxRecDepth 100000 in
theorem ii_ho_odds_1 : sm_D prog_1_method_36_code 1 3 4 (.ifCond .lt 9) := ⟨by decide +kernel, rfl⟩
set_option maxRecDepth 100000 in
theorem ii_ho_odds_4 : sm_D prog_1_method_36_code 4 1 5 (.iload_n 2) := ⟨by decide +kernel, rfl⟩
set_option maxRecDepth 100000 in
theorem ii_ho_odds_5 : sm_D prog_1_method_36_code 5 2 7 (.bipush 12) := ⟨by decide +kernel, rfl⟩
set_option maxRecDepth 100000 in
theorem ii_ho_odds_7 : sm_D prog_1_method_36_code 7 3 10 (.if_icmp .le 5) := ⟨by decide +kernel, rfl⟩
set_option maxRecDepth 100000 in
theorem ii_ho_odds_10 : sm_D prog_1_method_36_code 10 1 11 (.iconst (-1)) := ⟨by decide +kernel, rfl⟩
set_option maxRecDepth 100000 in
theorem ii_ho_odds_11 : sm_D prog_1_method_36_code 11 1 12 (.ireturn) := ⟨by decide +kernel, rfl⟩
set_option maxRecDepth 100000 in
theorem ii_ho_odds_12 : sm_D prog_1_method_36_code 12 1 13 (.aload_n 0) := ⟨by decide +kernel, rfl⟩
set_option maxRecDepth 100000 in
theorem ii_ho_odds_13 : sm_D prog_1_method_36_code 13 1 14 (.iload_n 1) := ⟨by decide +kernel, rfl⟩
set_option maxRecDepth 100000 in
theorem ii_ho_odds_14 : sm_D prog_1_method_36_code 14 1 15 (.iconst 5) := ⟨by decide +kernel, rfl⟩
set_option maxRecDepth 100000 in
theorem ii_ho_odds_15 : sm_D prog_1_method_36_code 15 3 18 (.invokevirtual 192) := ⟨by decide +kernel, rfl⟩
set_option maxRecDepth 100000 in
theorem ii_ho_odds_18 : sm_D prog_1_method_36_code 18 1 19 (.istore_n 3) := ⟨by decide +kernel, rfl⟩
set_option maxRecDepth 100000 in
theorem ii_ho_odds_19 : sm_D prog_1_method_36_code 19 1 20 (.iload_n 3) := ⟨by decide +kernel, rfl⟩
set_option maxRecDepth 100000 in
theorem ii_ho_odds_20 : sm_D prog_1_method_36_code 20 3 23 (.ifCond .eq 5) := ⟨by decide +kernel, rfl⟩
set_option maxRecDepth 100000 in
theorem ii_ho_odds_23 : sm_D prog_1_method_36_code 23 1 24 (.iload_n 3) := ⟨by decide +kernel, rfl⟩
set_option maxRecDepth 100000 in
theorem ii_ho_odds_24 : sm_D prog_1_method_36_code 24 1 25 (.ireturn) := ⟨by decide +kernel, rfl⟩
set_option maxRecDepth 100000 in
theorem ii_ho_odds_25 : sm_D prog_1_method_36_code 25 1 26 (.aload_n 0) := ⟨by decide +kernel, rfl⟩
set_option maxRecDepth 100000 in
theorem ii_ho_odds_26 : sm_D prog_1_method_36_code 26 3 29 (.getfield 40) := ⟨by decide +kernel, rfl⟩
set_option maxRecDepth 100000 in
theorem ii_ho_odds_29 : sm_D prog_1_method_36_code 29 1 30 (.aload_n 0) := ⟨by decide +kernel, rfl⟩
set_option maxRecDepth 100000 in
theorem ii_ho_odds_30 : sm_D prog_1_method_36_code 30 3 33 (.getfield 11) := ⟨by decide +kernel, rfl⟩
set_option maxRecDepth 100000 in
theorem ii_ho_odds_33 : sm_D prog_1_method_36_code 33 1 34 (.iload_n 1) := ⟨by decide +kernel, rfl⟩
set_option maxRecDepth 100000 in
theorem ii_ho_odds_34 : sm_D prog_1_method_36_code 34 1 35 (.aaload) := ⟨by decide +kernel, rfl⟩
set_option maxRecDepth 100000 in
theorem ii_ho_odds_35 : sm_D prog_1_method_36_code 35 2 37 (.bipush (-9)) := ⟨by decide +kernel, rfl⟩
set_option maxRecDepth 100000 in
theorem ii_ho_odds_37 : sm_D prog_1_method_36_code 37 3 40 (.invokevirtual 195) := ⟨by decide +kernel, rfl⟩
set_option maxRecDepth 100000 in
theorem ii_ho_odds_40 : sm_D prog_1_method_36_code 40 1 41 (.aload_n 0) := ⟨by decide +kernel, rfl⟩
set_option maxRecDepth 100000 in
theorem ii_ho_odds_41 : sm_D prog_1_method_36_code 41 3 44 (.getfield 54) := ⟨by decide +kernel, rfl⟩
set_option maxRecDepth 100000 in
theorem ii_ho_odds_44 : sm_D prog_1_method_36_code 44 1 45 (.aload_n 0) := ⟨by decide +kernel, rfl⟩
set_option maxRecDepth 100000 in
theorem ii_ho_odds_45 : sm_D prog_1_method_36_code 45 3 48 (.getfield 40) := ⟨by decide +kernel, rfl⟩
set_option maxRecDepth 100000 in
theorem ii_ho_odds_48 : sm_D prog_1_method_36_code 48 1 49 (.iload_n 2) := ⟨by decide +kernel, rfl⟩
set_option maxRecDepth 100000 in
theorem ii_ho_odds_49 : sm_D prog_1_method_36_code 49 3 52 (.invokevirtual 282) := ⟨by decide +kernel, rfl⟩
set_option maxRecDepth 100000 in
theorem ii_ho_odds_52 : sm_D prog_1_method_36_code 52 1 53 (.aload_n 0) := ⟨by decide +kernel, rfl⟩
set_option maxRecDepth 100000 in
theorem ii_ho_odds_53 : sm_D prog_1_method_36_code 53 3 56 (.getfield 40) := ⟨by decide +kernel, rfl⟩
set_option maxRecDepth 100000 in
theorem ii_ho_odds_56 : sm_D prog_1_method_36_code 56 3 59 (.invokevirtual 286) := ⟨by decide +kernel, rfl⟩
set_option maxRecDepth 100000 in
theorem ii_ho_odds_59 : sm_D prog_1_method_36_code 59 3 62 (.invokevirtual 203) := ⟨by decide +kernel, rfl⟩
set_option maxRecDepth 100000 in
theorem ii_ho_odds_62 : sm_D prog_1_method_36_code 62 1 63 (.iconst 1) := ⟨by decide +kernel, rfl⟩
set_option maxRecDepth 100000 in
theorem ii_ho_odds_63 : sm_D prog_1_method_36_code 63 1 64 (.ireturn) := ⟨by decide +kernel, rfl⟩
noncomputable def ff_ho_odds  (a1 : Int32) (a2 : Int32) (w : sm_Mem) : sm_R := (if a2 < (0 : Int32) then (some (.int (-1 : Int32), w)) else (if a2 ≤ (12 : Int32) then (sm_cI (ff_ho_refusalOfWords (a1) ((5 : Int32)) w) fun x1 w2 => (if x1 = (0 : Int32) then (Option.bind (sm_rr 1 a1) fun r3 => (sm_cV (ff_wy_runWords (r3) ((-9 : Int32)) w2) fun w5 => (sm_cL (ff_wy_weightOfFull (a2) w5) fun x6 w7 => (sm_cL (ff_wy_weightOfAny  w7) fun x8 w9 => (sm_cV (ff_td_share (x6) (x8) w9) fun w11 => (some (.int (1 : Int32), w11))))))) else (some (.int x1, w2)))) else (some (.int (-1 : Int32), w))))
set_option maxHeartbeats 4000000 in
set_option maxRecDepth 100000 in
theorem ss_ho_odds_0 {E : Nat × (Nat → Int32)}  (a1 : Int32) (a2 : Int32) (w : sm_Mem) : sm_Sim E (mi_ho_odds) 0 [some (.ref 0), some (.int a1), some (.int a2), none] [] w (ff_ho_odds  a1 a2 w) := by
  unfold ff_ho_odds
  refine sm_iload_n ii_ho_odds_0 rfl ?_
  refine sm_if_lt 10 ii_ho_odds_1 (by decide) ?_ ?_
  · refine sm_iconst (-1 : Int32) ii_ho_odds_10 (by decide) ?_
    exact sm_iret ii_ho_odds_11 rfl
  · refine sm_iload_n ii_ho_odds_4 rfl ?_
    refine sm_bipush (12 : Int32) ii_ho_odds_5 (by decide) ?_
    refine sm_icmp_le 12 ii_ho_odds_7 (by decide) ?_ ?_
    · refine sm_aload_n ii_ho_odds_12 rfl ?_
      refine sm_iload_n ii_ho_odds_13 rfl ?_
      refine sm_iconst (5 : Int32) ii_ho_odds_14 (by decide) ?_
      refine sm_cvI [.int a1, .int (5 : Int32)] [] rfl ii_ho_odds_15 ml_ho_192 (mf_ho_refusalOfWords) (mv_ho_refusalOfWords) (Nat.le_of_ble_eq_true rfl) rfl 6 rfl rfl rfl rfl (mc_ho_refusalOfWords (a1) ((5 : Int32)) w) (fun x1 w2 => ?_)
      refine sm_istore_n [some (.ref 0), some (.int a1), some (.int a2), some (.int x1)] ii_ho_odds_18 rfl rfl ?_
      refine sm_iload_n ii_ho_odds_19 rfl ?_
      refine sm_if_eq 25 ii_ho_odds_20 (by decide) ?_ ?_
      · refine sm_aload_n ii_ho_odds_25 rfl ?_
        refine sm_getR 49 ii_ho_odds_26 fl_ho_40 (k := 0) rfl ?_
        refine sm_aload_n ii_ho_odds_29 rfl ?_
        refine sm_getR 1 ii_ho_odds_30 fl_ho_11 (k := 0) rfl ?_
        refine sm_iload_n ii_ho_odds_33 rfl ?_
        refine sm_aald ii_ho_odds_34 (fun r3 => ?_)
        refine sm_bipush (-9 : Int32) ii_ho_odds_35 (by decide) ?_
        refine sm_cvV [.ref r3, .int (-9 : Int32)] [] rfl ii_ho_odds_37 ml_ho_195 (mf_wy_runWords) (mv_wy_runWords) (Nat.le_of_ble_eq_true rfl) rfl 5 rfl rfl rfl rfl (mc_wy_runWords (r3) ((-9 : Int32)) w2) (fun w5 => ?_)
        refine sm_aload_n ii_ho_odds_40 rfl ?_
        refine sm_getR 60 ii_ho_odds_41 fl_ho_54 (k := 0) rfl ?_
        refine sm_aload_n ii_ho_odds_44 rfl ?_
        refine sm_getR 49 ii_ho_odds_45 fl_ho_40 (k := 0) rfl ?_
        refine sm_iload_n ii_ho_odds_48 rfl ?_
        refine sm_cvL [.int a2] [.ref 60] rfl ii_ho_odds_49 ml_ho_282 (mf_wy_weightOfFull) (mv_wy_weightOfFull) (Nat.le_of_ble_eq_true rfl) rfl 5 rfl rfl rfl rfl (mc_wy_weightOfFull (a2) w5) (fun x6 w7 => ?_)
        refine sm_aload_n ii_ho_odds_52 rfl ?_
        refine sm_getR 49 ii_ho_odds_53 fl_ho_40 (k := 0) rfl ?_
        refine sm_cvL [] [.long x6, .ref 60] rfl ii_ho_odds_56 ml_ho_286 (mf_wy_weightOfAny) (mv_wy_weightOfAny) (Nat.le_of_ble_eq_true rfl) rfl 5 rfl rfl rfl rfl (mc_wy_weightOfAny  w7) (fun x8 w9 => ?_)
        refine sm_cvV [.long x6, .long x8] [] rfl ii_ho_odds_59 ml_ho_203 (mf_td_share) (mv_td_share) (Nat.le_of_ble_eq_true rfl) rfl 3 rfl rfl rfl rfl (mc_td_share (x6) (x8) w9) (fun w11 => ?_)
        refine sm_iconst (1 : Int32) ii_ho_odds_62 (by decide) ?_
        exact sm_iret ii_ho_odds_63 rfl
      · refine sm_iload_n ii_ho_odds_23 rfl ?_
        exact sm_iret ii_ho_odds_24 rfl
    · refine sm_iconst (-1 : Int32) ii_ho_odds_10 (by decide) ?_
      exact sm_iret ii_ho_odds_11 rfl
set_option maxHeartbeats 4000000 in
set_option maxRecDepth 100000 in
theorem mc_ho_odds (a1 : Int32) (a2 : Int32) (w : sm_Mem) : sm_MC mi_ho_odds [.ref 0, .int a1, .int a2] w (ff_ho_odds a1 a2 w) := sm_MC_of (0, fun _ => 0) (by decide +kernel) (by decide) rfl (Nat.le_of_ble_eq_true rfl) (ss_ho_odds_0 a1 a2 w)
abbrev mi_mo_tellParts : sm_MI := (⟨"HerOrdersModel", "tellParts", "(JJ)I"⟩, prog_9_method_91_code, 11, (some .int), 1)
set_option maxRecDepth 100000 in
theorem mf_mo_tellParts : sm_MF mi_mo_tellParts 2 := ⟨List.mem_of_getElem? (i := 1391) (by decide +kernel), List.mem_of_getElem? (i := 132) (by decide +kernel), ⟨by decide, by decide⟩, by decide +kernel⟩
set_option maxRecDepth 100000 in
theorem mv_mo_tellParts : sm_MFV mi_mo_tellParts := ⟨List.mem_of_getElem? (i := 1390) (by decide +kernel), List.mem_of_getElem? (i := 118) (by decide +kernel)⟩
set_option maxRecDepth 100000 in
theorem ii_mo_tellParts_0 : sm_D prog_9_method_91_code 0 1 1 (.lload_n 1) := ⟨by decide +kernel, rfl⟩
set_option maxRecDepth 100000 in
theorem ii_mo_tellParts_1 : sm_D prog_9_method_91_code 1 2 3 (.lstore 5) := ⟨by decide +kernel, rfl⟩
set_option maxRecDepth 100000 in
theorem ii_mo_tellParts_3 : sm_D prog_9_method_91_code 3 1 4 (.lload_n 3) := ⟨by decide +kernel, rfl⟩
set_option maxRecDepth 100000 in
theorem ii_mo_tellParts_4 : sm_D prog_9_method_91_code 4 2 6 (.lstore 7) := ⟨by decide +kernel, rfl⟩
set_option maxRecDepth 100000 in
theorem ii_mo_tellParts_6 : sm_D prog_9_method_91_code 6 2 8 (.lload 7) := ⟨by decide +kernel, rfl⟩
set_option maxRecDepth 100000 in
theorem ii_mo_tellParts_8 : sm_D prog_9_method_91_code 8 1 9 (.lconst 0) := ⟨by decide +kernel, rfl⟩
set_option maxRecDepth 100000 in
theorem ii_mo_tellParts_9 : sm_D prog_9_method_91_code 9 1 10 (.lcmp) := ⟨by decide +kernel, rfl⟩
set_option maxRecDepth 100000 in
theorem ii_mo_tellParts_10 : sm_D prog_9_method_91_code 10 3 13 (.ifCond .eq 21) := ⟨by decide +kernel, rfl⟩
set_option maxRecDepth 100000 in
theorem ii_mo_tellParts_13 : sm_D prog_9_method_91_code 13 2 15 (.lload 5) := ⟨by decide +kernel, rfl⟩
set_option maxRecDepth 100000 in
theorem ii_mo_tellParts_15 : sm_D prog_9_method_91_code 15 2 17 (.lload 7) := ⟨by decide +kernel, rfl⟩
set_option maxRecDepth 100000 in
theorem ii_mo_tellParts_17 : sm_D prog_9_method_91_code 17 1 18 (.lrem) := ⟨by decide +kernel, rfl⟩
set_option maxRecDepth 100000 in
theorem ii_mo_tellParts_18 : sm_D prog_9_method_91_code 18 2 20 (.lstore 9) := ⟨by decide +kernel, rfl⟩
set_option maxRecDepth 100000 in
theorem ii_mo_tellParts_20 : sm_D prog_9_method_91_code 20 2 22 (.lload 7) := ⟨by decide +kernel, rfl⟩
set_option maxRecDepth 100000 in
theorem ii_mo_tellParts_22 : sm_D prog_9_method_91_code 22 2 24 (.lstore 5) := ⟨by decide +kernel, rfl⟩
set_option maxRecDepth 100000 in
theorem ii_mo_tellParts_24 : sm_D prog_9_method_91_code 24 2 26 (.lload 9) := ⟨by decide +kernel, rfl⟩
set_option maxRecDepth 100000 in
theorem ii_mo_tellParts_26 : sm_D prog_9_method_91_code 26 2 28 (.lstore 7) := ⟨by decide +kernel, rfl⟩
set_option maxRecDepth 100000 in
theorem ii_mo_tellParts_28 : sm_D prog_9_method_91_code 28 3 31 (.goto (-22)) := ⟨by decide +kernel, rfl⟩
set_option maxRecDepth 100000 in
theorem ii_mo_tellParts_31 : sm_D prog_9_method_91_code 31 1 32 (.aload_n 0) := ⟨by decide +kernel, rfl⟩
set_option maxRecDepth 100000 in
theorem ii_mo_tellParts_32 : sm_D prog_9_method_91_code 32 1 33 (.lload_n 1) := ⟨by decide +kernel, rfl⟩
set_option maxRecDepth 100000 in
theorem ii_mo_tellParts_33 : sm_D prog_9_method_91_code 33 2 35 (.lload 5) := ⟨by decide +kernel, rfl⟩
set_option maxRecDepth 100000 in
theorem ii_mo_tellParts_35 : sm_D prog_9_method_91_code 35 1 36 (.ldiv) := ⟨by decide +kernel, rfl⟩
set_option maxRecDepth 100000 in
theorem ii_mo_tellParts_36 : sm_D prog_9_method_91_code 36 3 39 (.putfield 245) := ⟨by decide +kernel, rfl⟩
set_option maxRecDepth 100000 in
theorem ii_mo_tellParts_39 : sm_D prog_9_method_91_code 39 1 40 (.aload_n 0) := ⟨by decide +kernel, rfl⟩
set_option maxRecDepth 100000 in
theorem ii_mo_tellParts_40 : sm_D prog_9_method_91_code 40 1 41 (.lload_n 3) := ⟨by decide +kernel, rfl⟩
set_option maxRecDepth 100000 in
theorem ii_mo_tellParts_41 : sm_D prog_9_method_91_code 41 2 43 (.lload 5) := ⟨by decide +kernel, rfl⟩
set_option maxRecDepth 100000 in
theorem ii_mo_tellParts_43 : sm_D prog_9_method_91_code 43 1 44 (.ldiv) := ⟨by decide +kernel, rfl⟩
set_option maxRecDepth 100000 in
theorem ii_mo_tellParts_44 : sm_D prog_9_method_91_code 44 3 47 (.putfield 34) := ⟨by decide +kernel, rfl⟩
set_option maxRecDepth 100000 in
theorem ii_mo_tellParts_47 : sm_D prog_9_method_91_code 47 1 48 (.iconst 1) := ⟨by decide +kernel, rfl⟩
set_option maxRecDepth 100000 in
theorem ii_mo_tellParts_48 : sm_D prog_9_method_91_code 48 1 49 (.ireturn) := ⟨by decide +kernel, rfl⟩
noncomputable def ff_mo_tellParts_6_b  (self6 : Int64 → Int64 → Int64 → Int64 → sm_Mem → sm_R) (a1 : Int64) (a3 : Int64) (a5 : Int64) (a7 : Int64) (w : sm_Mem) : sm_R := (if (lg_cmp a7 (0 : Int64)) = (0 : Int32) then (if a5 = (0 : Int64) then none else (sm_let (sm_wL w 62 10 (a1 / a5)) fun w2 => (if a5 = (0 : Int64) then none else (sm_let (sm_wL w2 62 11 (a3 / a5)) fun w4 => (some (.int (1 : Int32), w4)))))) else (if a7 = (0 : Int64) then none else self6 (a1) (a3) (a7) ((a5 - a5 / a7 * a7)) w))
noncomputable def ff_mo_tellParts_6_f  : Nat → Int64 → Int64 → Int64 → Int64 → sm_Mem → sm_R
  | 0, _, _, _, _, _ => none
  | n + 1, a1, a3, a5, a7, w => ff_mo_tellParts_6_b  (ff_mo_tellParts_6_f  n) a1 a3 a5 a7 w
noncomputable def ff_mo_tellParts_6  (a1 : Int64) (a3 : Int64) (a5 : Int64) (a7 : Int64) (w : sm_Mem) : sm_R := ff_mo_tellParts_6_f  sm_N a1 a3 a5 a7 w
set_option maxHeartbeats 4000000 in
set_option maxRecDepth 100000 in
theorem ss_mo_tellParts_6_b {E : Nat × (Nat → Int32)}  (self6 : Int64 → Int64 → Int64 → Int64 → sm_Mem → sm_R) (hself6 : ∀ (a1 : Int64) (a3 : Int64) (a5 : Int64) (a7 : Int64) (w : sm_Mem), sm_Sim E (mi_mo_tellParts) 6 [some (.ref 62), some (.long a1), none, some (.long a3), none, some (.long a5), none, some (.long a7), none, none, none] [] w (self6 a1 a3 a5 a7 w)) (a1 : Int64) (a3 : Int64) (a5 : Int64) (a7 : Int64) (w : sm_Mem) : sm_Sim E (mi_mo_tellParts) 6 [some (.ref 62), some (.long a1), none, some (.long a3), none, some (.long a5), none, some (.long a7), none, none, none] [] w (ff_mo_tellParts_6_b  self6 a1 a3 a5 a7 w) := by
  unfold ff_mo_tellParts_6_b
  refine sm_lload ii_mo_tellParts_6 rfl ?_
  refine sm_lconst (0 : Int64) ii_mo_tellParts_8 (by decide) ?_
  refine sm_lcmp ii_mo_tellParts_9 ?_
  refine sm_if_eq 31 ii_mo_tellParts_10 (by decide) ?_ ?_
  · refine sm_aload_n ii_mo_tellParts_31 rfl ?_
    refine sm_lload_n ii_mo_tellParts_32 rfl ?_
    refine sm_lload ii_mo_tellParts_33 rfl ?_
    refine sm_ldiv ii_mo_tellParts_35 ?_
    refine sm_putL ii_mo_tellParts_36 fp_mo_245 (k := 62) rfl (fun w2 => ?_)
    refine sm_aload_n ii_mo_tellParts_39 rfl ?_
    refine sm_lload_n ii_mo_tellParts_40 rfl ?_
    refine sm_lload ii_mo_tellParts_41 rfl ?_
    refine sm_ldiv ii_mo_tellParts_43 ?_
    refine sm_putL ii_mo_tellParts_44 fp_mo_34 (k := 62) rfl (fun w4 => ?_)
    refine sm_iconst (1 : Int32) ii_mo_tellParts_47 (by decide) ?_
    exact sm_iret ii_mo_tellParts_48 rfl
  · refine sm_lload ii_mo_tellParts_13 rfl ?_
    refine sm_lload ii_mo_tellParts_15 rfl ?_
    refine sm_lrem ii_mo_tellParts_17 ?_
    refine sm_lstore [some (.ref 62), some (.long a1), none, some (.long a3), none, some (.long a5), none, some (.long a7), none, some (.long (a5 - a5 / a7 * a7)), none] ii_mo_tellParts_18 rfl rfl ?_
    refine sm_lload ii_mo_tellParts_20 rfl ?_
    refine sm_lstore [some (.ref 62), some (.long a1), none, some (.long a3), none, some (.long a7), none, some (.long a7), none, some (.long (a5 - a5 / a7 * a7)), none] ii_mo_tellParts_22 rfl rfl ?_
    refine sm_lload ii_mo_tellParts_24 rfl ?_
    refine sm_lstore [some (.ref 62), some (.long a1), none, some (.long a3), none, some (.long a7), none, some (.long (a5 - a5 / a7 * a7)), none, some (.long (a5 - a5 / a7 * a7)), none] ii_mo_tellParts_26 rfl rfl ?_
    refine sm_goto 6 ii_mo_tellParts_28 (by decide) ?_
    refine sm_msk [true, true, false, true, false, true, false, true, false, false, false] [some (.ref 62), some (.long a1), none, some (.long a3), none, some (.long a7), none, some (.long (a5 - a5 / a7 * a7)), none, none, none] rfl ?_
    exact hself6 (a1) (a3) (a7) ((a5 - a5 / a7 * a7)) w
set_option maxHeartbeats 4000000 in
set_option maxRecDepth 100000 in
theorem ss_mo_tellParts_6_f {E : Nat × (Nat → Int32)}  : ∀ (n : Nat) (a1 : Int64) (a3 : Int64) (a5 : Int64) (a7 : Int64) (w : sm_Mem), sm_Sim E (mi_mo_tellParts) 6 [some (.ref 62), some (.long a1), none, some (.long a3), none, some (.long a5), none, some (.long a7), none, none, none] [] w (ff_mo_tellParts_6_f  n a1 a3 a5 a7 w)
  | 0, _, _, _, _, _ => fun _ _ h => by cases h
  | n + 1, a1, a3, a5, a7, w => ss_mo_tellParts_6_b  _ (ss_mo_tellParts_6_f  n) a1 a3 a5 a7 w
set_option maxHeartbeats 4000000 in
set_option maxRecDepth 100000 in
theorem ss_mo_tellParts_6 {E : Nat × (Nat → Int32)}  (a1 : Int64) (a3 : Int64) (a5 : Int64) (a7 : Int64) (w : sm_Mem) : sm_Sim E (mi_mo_tellParts) 6 [some (.ref 62), some (.long a1), none, some (.long a3), none, some (.long a5), none, some (.long a7), none, none, none] [] w (ff_mo_tellParts_6  a1 a3 a5 a7 w) := ss_mo_tellParts_6_f  sm_N a1 a3 a5 a7 w
noncomputable def ff_mo_tellParts  (a1 : Int64) (a3 : Int64) (w : sm_Mem) : sm_R := ff_mo_tellParts_6 (a1) (a3) (a1) (a3) w
set_option maxHeartbeats 4000000 in
set_option maxRecDepth 100000 in
theorem ss_mo_tellParts_0 {E : Nat × (Nat → Int32)}  (a1 : Int64) (a3 : Int64) (w : sm_Mem) : sm_Sim E (mi_mo_tellParts) 0 [some (.ref 62), some (.long a1), none, some (.long a3), none, none, none, none, none, none, none] [] w (ff_mo_tellParts  a1 a3 w) := by
  unfold ff_mo_tellParts
  refine sm_lload_n ii_mo_tellParts_0 rfl ?_
  refine sm_lstore [some (.ref 62), some (.long a1), none, some (.long a3), none, some (.long a1), none, none, none, none, none] ii_mo_tellParts_1 rfl rfl ?_
  refine sm_lload_n ii_mo_tellParts_3 rfl ?_
  refine sm_lstore [some (.ref 62), some (.long a1), none, some (.long a3), none, some (.long a1), none, some (.long a3), none, none, none] ii_mo_tellParts_4 rfl rfl ?_
  exact ss_mo_tellParts_6 (a1) (a3) (a1) (a3) w
set_option maxHeartbeats 4000000 in
set_option maxRecDepth 100000 in
theorem mc_mo_tellParts (a1 : Int64) (a3 : Int64) (w : sm_Mem) : sm_MC mi_mo_tellParts [.ref 62, .long a1, .long a3] w (ff_mo_tellParts a1 a3 w) := sm_MC_of (0, fun _ => 0) (by decide +kernel) (by decide) rfl (Nat.le_of_ble_eq_true rfl) (ss_mo_tellParts_0 a1 a3 w)
abbrev mi_mo_tellSilent : sm_MI := (⟨"HerOrdersModel", "tellSilent", "(IIZ)I"⟩, prog_9_method_92_code, 14, (some .int), 8)
set_option maxRecDepth 100000 in
theorem mf_mo_tellSilent : sm_MF mi_mo_tellSilent 3 := ⟨List.mem_of_getElem? (i := 1387) (by decide +kernel), List.mem_of_getElem? (i := 132) (by decide +kernel), ⟨by decide, by decide⟩, by decide +kernel⟩
set_option maxRecDepth 100000 in
theorem mv_mo_tellSilent : sm_MFV mi_mo_tellSilent := ⟨List.mem_of_getElem? (i := 1386) (by decide +kernel), List.mem_of_getElem? (i := 117) (by decide +kernel)⟩
set_option maxRecDepth 100000 in
theorem ii_mo_tellSilent_0 : sm_D prog_9_method_92_code 0 1 1 (.aload_n 0) := ⟨by decide +kernel, rfl⟩
set_option maxRecDepth 100000 in
theorem ii_mo_tellSilent_1 : sm_D prog_9_method_92_code 1 1 2 (.iload_n 1) := ⟨by decide +kernel, rfl⟩
set_option maxRecDepth 100000 in
theorem ii_mo_tellSilent_2 : sm_D prog_9_method_92_code 2 1 3 (.iconst 1) := ⟨by decide +kernel, rfl⟩
set_option maxRecDepth 100000 in
theorem ii_mo_tellSilent_3 : sm_D prog_9_method_92_code 3 3 6 (.invokevirtual 242) := ⟨by decide +kernel, rfl⟩
set_option maxRecDepth 100000 in
theorem ii_mo_tellSilent_6 : sm_D prog_9_method_92_code 6 2 8 (.istore 4) := ⟨by decide +kernel, rfl⟩
set_option maxRecDepth 100000 in
theorem ii_mo_tellSilent_8 : sm_D prog_9_method_92_code 8 2 10 (.iload 4) := ⟨by decide +kernel, rfl⟩
set_option maxRecDepth 100000 in
theorem ii_mo_tellSilent_10 : sm_D prog_9_method_92_code 10 3 13 (.ifCond .eq 6) := ⟨by decide +kernel, rfl⟩
set_option maxRecDepth 100000 in
theorem ii_mo_tellSilent_13 : sm_D prog_9_method_92_code 13 2 15 (.iload 4) := ⟨by decide +kernel, rfl⟩
set_option maxRecDepth 100000 in
theorem ii_mo_tellSilent_15 : sm_D prog_9_method_92_code 15 1 16 (.ireturn) := ⟨by decide +kernel, rfl⟩
set_option maxRecDepth 100000 in
theorem ii_mo_tellSilent_16 : sm_D prog_9_method_92_code 16 1 17 (.aload_n 0) := ⟨by decide +kernel, rfl⟩
set_option maxRecDepth 100000 in
theorem ii_mo_tellSilent_17 : sm_D prog_9_method_92_code 17 3 20 (.getfield 208) := ⟨by decide +kernel, rfl⟩
set_option maxRecDepth 100000 in
theorem ii_mo_tellSilent_20 : sm_D prog_9_method_92_code 20 2 22 (.istore 5) := ⟨by decide +kernel, rfl⟩
set_option maxRecDepth 100000 in
theorem ii_mo_tellSilent_22 : sm_D prog_9_method_92_code 22 1 23 (.lconst 0) := ⟨by decide +kernel, rfl⟩
set_option maxRecDepth 100000 in
theorem ii_mo_tellSilent_23 : sm_D prog_9_method_92_code 23 2 25 (.lstore 6) := ⟨by decide +kernel, rfl⟩
set_option maxRecDepth 100000 in
theorem ii_mo_tellSilent_25 : sm_D prog_9_method_92_code 25 1 26 (.lconst 0) := ⟨by decide +kernel, rfl⟩
set_option maxRecDepth 100000 in
theorem ii_mo_tellSilent_26 : sm_D prog_9_method_92_code 26 2 28 (.lstore 8) := ⟨by decide +kernel, rfl⟩
set_option maxRecDepth 100000 in
theorem ii_mo_tellSilent_28 : sm_D prog_9_method_92_code 28 1 29 (.iconst 0) := ⟨by decide +kernel, rfl⟩
set_option maxRecDepth 100000 in
theorem ii_mo_tellSilent_29 : sm_D prog_9_method_92_code 29 2 31 (.istore 10) := ⟨by decide +kernel, rfl⟩
set_option maxRecDepth 100000 in
theorem ii_mo_tellSilent_31 : sm_D prog_9_method_92_code 31 2 33 (.iload 10) := ⟨by decide +kernel, rfl⟩
set_option maxRecDepth 100000 in
theorem ii_mo_tellSilent_33 : sm_D prog_9_method_92_code 33 1 34 (.iconst 1) := ⟨by decide +kernel, rfl⟩
set_option maxRecDepth 100000 in
theorem ii_mo_tellSilent_34 : sm_D prog_9_method_92_code 34 1 35 (.aload_n 0) := ⟨by decide +kernel, rfl⟩
set_option maxRecDepth 100000 in
theorem ii_mo_tellSilent_35 : sm_D prog_9_method_92_code 35 3 38 (.getfield 135) := ⟨by decide +kernel, rfl⟩
set_option maxRecDepth 100000 in
theorem ii_mo_tellSilent_38 : sm_D prog_9_method_92_code 38 1 39 (.ishl) := ⟨by decide +kernel, rfl⟩
set_option maxRecDepth 100000 in
theorem ii_mo_tellSilent_39 : sm_D prog_9_method_92_code 39 3 42 (.if_icmp .ge 111) := ⟨by decide +kernel, rfl⟩
set_option maxRecDepth 100000 in
theorem ii_mo_tellSilent_42 : sm_D prog_9_method_92_code 42 1 43 (.lconst 1) := ⟨by decide +kernel, rfl⟩
set_option maxRecDepth 100000 in
theorem ii_mo_tellSilent_43 : sm_D prog_9_method_92_code 43 2 45 (.lstore 11) := ⟨by decide +kernel, rfl⟩
set_option maxRecDepth 100000 in
theorem ii_mo_tellSilent_45 : sm_D prog_9_method_92_code 45 1 46 (.iconst 0) := ⟨by decide +kernel, rfl⟩
set_option maxRecDepth 100000 in
theorem ii_mo_tellSilent_46 : sm_D prog_9_method_92_code 46 2 48 (.istore 13) := ⟨by decide +kernel, rfl⟩
set_option maxRecDepth 100000 in
theorem ii_mo_tellSilent_48 : sm_D prog_9_method_92_code 48 2 50 (.iload 13) := ⟨by decide +kernel, rfl⟩
set_option maxRecDepth 100000 in
theorem ii_mo_tellSilent_50 : sm_D prog_9_method_92_code 50 1 51 (.aload_n 0) := ⟨by decide +kernel, rfl⟩
set_option maxRecDepth 100000 in
theorem ii_mo_tellSilent_51 : sm_D prog_9_method_92_code 51 3 54 (.getfield 135) := ⟨by decide +kernel, rfl⟩
set_option maxRecDepth 100000 in
theorem ii_mo_tellSilent_54 : sm_D prog_9_method_92_code 54 3 57 (.if_icmp .ge 34) := ⟨by decide +kernel, rfl⟩
set_option maxRecDepth 100000 in
theorem ii_mo_tellSilent_57 : sm_D prog_9_method_92_code 57 2 59 (.lload 11) := ⟨by decide +kernel, rfl⟩
set_option maxRecDepth 100000 in
theorem ii_mo_tellSilent_59 : sm_D prog_9_method_92_code 59 2 61 (.iload 10) := ⟨by decide +kernel, rfl⟩
set_option maxRecDepth 100000 in
theorem ii_mo_tellSilent_61 : sm_D prog_9_method_92_code 61 2 63 (.iload 13) := ⟨by decide +kernel, rfl⟩
set_option maxRecDepth 100000 in
theorem ii_mo_tellSilent_63 : sm_D prog_9_method_92_code 63 3 66 (.invokestatic 138) := ⟨by decide +kernel, rfl⟩
set_option maxRecDepth 100000 in
theorem ii_mo_tellSilent_66 : sm_D prog_9_method_92_code 66 3 69 (.ifCond .eq 8) := ⟨by decide +kernel, rfl⟩
set_option maxRecDepth 100000 in
theorem ii_mo_tellSilent_69 : sm_D prog_9_method_92_code 69 1 70 (.iload_n 2) := ⟨by decide +kernel, rfl⟩
set_option maxRecDepth 100000 in
theorem ii_mo_tellSilent_70 : sm_D prog_9_method_92_code 70 1 71 (.i2l) := ⟨by decide +kernel, rfl⟩
set_option maxRecDepth 100000 in
theorem ii_mo_tellSilent_71 : sm_D prog_9_method_92_code 71 3 74 (.goto 8) := ⟨by decide +kernel, rfl⟩
set_option maxRecDepth 100000 in
theorem ii_mo_tellSilent_74 : sm_D prog_9_method_92_code 74 2 76 (.bipush 12) := ⟨by decide +kernel, rfl⟩
set_option maxRecDepth 100000 in
theorem ii_mo_tellSilent_76 : sm_D prog_9_method_92_code 76 1 77 (.iload_n 2) := ⟨by decide +kernel, rfl⟩
set_option maxRecDepth 100000 in
theorem ii_mo_tellSilent_77 : sm_D prog_9_method_92_code 77 1 78 (.isub) := ⟨by decide +kernel, rfl⟩
set_option maxRecDepth 100000 in
theorem ii_mo_tellSilent_78 : sm_D prog_9_method_92_code 78 1 79 (.i2l) := ⟨by decide +kernel, rfl⟩
set_option maxRecDepth 100000 in
theorem ii_mo_tellSilent_79 : sm_D prog_9_method_92_code 79 1 80 (.lmul) := ⟨by decide +kernel, rfl⟩
set_option maxRecDepth 100000 in
theorem ii_mo_tellSilent_80 : sm_D prog_9_method_92_code 80 2 82 (.lstore 11) := ⟨by decide +kernel, rfl⟩
set_option maxRecDepth 100000 in
theorem ii_mo_tellSilent_82 : sm_D prog_9_method_92_code 82 3 85 (.iinc 13 1) := ⟨by decide +kernel, rfl⟩
set_option maxRecDepth 100000 in
theorem ii_mo_tellSilent_85 : sm_D prog_9_method_92_code 85 3 88 (.goto (-37)) := ⟨by decide +kernel, rfl⟩
set_option maxRecDepth 100000 in
theorem ii_mo_tellSilent_88 : sm_D prog_9_method_92_code 88 1 89 (.aload_n 0) := ⟨by decide +kernel, rfl⟩
set_option maxRecDepth 100000 in
theorem ii_mo_tellSilent_89 : sm_D prog_9_method_92_code 89 2 91 (.iload 10) := ⟨by decide +kernel, rfl⟩
set_option maxRecDepth 100000 in
theorem ii_mo_tellSilent_91 : sm_D prog_9_method_92_code 91 3 94 (.putfield 214) := ⟨by decide +kernel, rfl⟩
set_option maxRecDepth 100000 in
theorem ii_mo_tellSilent_94 : sm_D prog_9_method_92_code 94 1 95 (.aload_n 0) := ⟨by decide +kernel, rfl⟩
set_option maxRecDepth 100000 in
theorem ii_mo_tellSilent_95 : sm_D prog_9_method_92_code 95 2 97 (.iload 5) := ⟨by decide +kernel, rfl⟩
set_option maxRecDepth 100000 in
theorem ii_mo_tellSilent_97 : sm_D prog_9_method_92_code 97 3 100 (.putfield 208) := ⟨by decide +kernel, rfl⟩
set_option maxRecDepth 100000 in
theorem ii_mo_tellSilent_100 : sm_D prog_9_method_92_code 100 1 101 (.aload_n 0) := ⟨by decide +kernel, rfl⟩
set_option maxRecDepth 100000 in
theorem ii_mo_tellSilent_101 : sm_D prog_9_method_92_code 101 3 104 (.invokevirtual 254) := ⟨by decide +kernel, rfl⟩
set_option maxRecDepth 100000 in
theorem ii_mo_tellSilent_104 : sm_D prog_9_method_92_code 104 2 106 (.istore 13) := ⟨by decide +kernel, rfl⟩
set_option maxRecDepth 100000 in
theorem ii_mo_tellSilent_106 : sm_D prog_9_method_92_code 106 2 108 (.lload 6) := ⟨by decide +kernel, rfl⟩
set_option maxRecDepth 100000 in
theorem ii_mo_tellSilent_108 : sm_D prog_9_method_92_code 108 1 109 (.iload_n 3) := ⟨by decide +kernel, rfl⟩
set_option maxRecDepth 100000 in
theorem ii_mo_tellSilent_109 : sm_D prog_9_method_92_code 109 3 112 (.ifCond .eq 19) := ⟨by decide +kernel, rfl⟩
set_option maxRecDepth 100000 in
theorem ii_mo_tellSilent_112 : sm_D prog_9_method_92_code 112 2 114 (.iload 13) := ⟨by decide +kernel, rfl⟩
set_option maxRecDepth 100000 in
theorem ii_mo_tellSilent_114 : sm_D prog_9_method_92_code 114 2 116 (.iload 5) := ⟨by decide +kernel, rfl⟩
set_option maxRecDepth 100000 in
theorem ii_mo_tellSilent_116 : sm_D prog_9_method_92_code 116 3 119 (.if_icmp .ne 8) := ⟨by decide +kernel, rfl⟩
set_option maxRecDepth 100000 in
theorem ii_mo_tellSilent_119 : sm_D prog_9_method_92_code 119 2 121 (.lload 11) := ⟨by decide +kernel, rfl⟩
set_option maxRecDepth 100000 in
theorem ii_mo_tellSilent_121 : sm_D prog_9_method_92_code 121 3 124 (.goto 13) := ⟨by decide +kernel, rfl⟩
set_option maxRecDepth 100000 in
theorem ii_mo_tellSilent_124 : sm_D prog_9_method_92_code 124 1 125 (.lconst 0) := ⟨by decide +kernel, rfl⟩
set_option maxRecDepth 100000 in
theorem ii_mo_tellSilent_125 : sm_D prog_9_method_92_code 125 3 128 (.goto 9) := ⟨by decide +kernel, rfl⟩
set_option maxRecDepth 100000 in
theorem ii_mo_tellSilent_128 : sm_D prog_9_method_92_code 128 2 130 (.lload 11) := ⟨by decide +kernel, rfl⟩
set_option maxRecDepth 100000 in
theorem ii_mo_tellSilent_130 : sm_D prog_9_method_92_code 130 2 132 (.iload 13) := ⟨by decide +kernel, rfl⟩
set_option maxRecDepth 100000 in
theorem ii_mo_tellSilent_132 : sm_D prog_9_method_92_code 132 1 133 (.i2l) := ⟨by decide +kernel, rfl⟩
set_option maxRecDepth 100000 in
theorem ii_mo_tellSilent_133 : sm_D prog_9_method_92_code 133 1 134 (.lmul) := ⟨by decide +kernel, rfl⟩
set_option maxRecDepth 100000 in
theorem ii_mo_tellSilent_134 : sm_D prog_9_method_92_code 134 1 135 (.ladd) := ⟨by decide +kernel, rfl⟩
set_option maxRecDepth 100000 in
theorem ii_mo_tellSilent_135 : sm_D prog_9_method_92_code 135 2 137 (.lstore 6) := ⟨by decide +kernel, rfl⟩
set_option maxRecDepth 100000 in
theorem ii_mo_tellSilent_137 : sm_D prog_9_method_92_code 137 2 139 (.lload 8) := ⟨by decide +kernel, rfl⟩
set_option maxRecDepth 100000 in
theorem ii_mo_tellSilent_139 : sm_D prog_9_method_92_code 139 2 141 (.lload 11) := ⟨by decide +kernel, rfl⟩
set_option maxRecDepth 100000 in
theorem ii_mo_tellSilent_141 : sm_D prog_9_method_92_code 141 1 142 (.ladd) := ⟨by decide +kernel, rfl⟩
set_option maxRecDepth 100000 in
theorem ii_mo_tellSilent_142 : sm_D prog_9_method_92_code 142 2 144 (.lstore 8) := ⟨by decide +kernel, rfl⟩
set_option maxRecDepth 100000 in
theorem ii_mo_tellSilent_144 : sm_D prog_9_method_92_code 144 3 147 (.iinc 10 1) := ⟨by decide +kernel, rfl⟩
set_option maxRecDepth 100000 in
theorem ii_mo_tellSilent_147 : sm_D prog_9_method_92_code 147 3 150 (.goto (-116)) := ⟨by decide +kernel, rfl⟩
set_option maxRecDepth 100000 in
theorem ii_mo_tellSilent_150 : sm_D prog_9_method_92_code 150 1 151 (.aload_n 0) := ⟨by decide +kernel, rfl⟩
set_option maxRecDepth 100000 in
theorem ii_mo_tellSilent_151 : sm_D prog_9_method_92_code 151 2 153 (.lload 6) := ⟨by decide +kernel, rfl⟩
set_option maxRecDepth 100000 in
theorem ii_mo_tellSilent_153 : sm_D prog_9_method_92_code 153 2 155 (.lload 8) := ⟨by decide +kernel, rfl⟩
set_option maxRecDepth 100000 in
theorem ii_mo_tellSilent_155 : sm_D prog_9_method_92_code 155 3 158 (.invokevirtual 284) := ⟨by decide +kernel, rfl⟩
set_option maxRecDepth 100000 in
theorem ii_mo_tellSilent_158 : sm_D prog_9_method_92_code 158 1 159 (.ireturn) := ⟨by decide +kernel, rfl⟩
noncomputable def ff_mo_tellSilent_134 (self31 : Int32 → Int32 → Int32 → Int64 → Int64 → Int32 → sm_Mem → sm_R) (a2 : Int32) (a3 : Int32) (a5 : Int32) (a8 : Int64) (a10 : Int32) (a11 : Int64) (b0 : Int64) (b1 : Int64) (w : sm_Mem) : sm_R := self31 (a2) (a3) (a5) ((b0 + b1)) ((a8 + a11)) ((a10 + (1 : Int32))) w
set_option maxHeartbeats 4000000 in
set_option maxRecDepth 100000 in
theorem ss_mo_tellSilent_134 {E : Nat × (Nat → Int32)} (self31 : Int32 → Int32 → Int32 → Int64 → Int64 → Int32 → sm_Mem → sm_R) (hself31 : ∀ (a2 : Int32) (a3 : Int32) (a5 : Int32) (a6 : Int64) (a8 : Int64) (a10 : Int32) (w : sm_Mem), sm_Sim E (mi_mo_tellSilent) 31 [some (.ref 62), none, some (.int a2), some (.int a3), none, some (.int a5), some (.long a6), none, some (.long a8), none, some (.int a10), none, none, none] [] w (self31 a2 a3 a5 a6 a8 a10 w)) (a2 : Int32) (a3 : Int32) (a5 : Int32) (a8 : Int64) (a10 : Int32) (a11 : Int64) (b0 : Int64) (b1 : Int64) (w : sm_Mem) : sm_Sim E (mi_mo_tellSilent) 134 [some (.ref 62), none, some (.int a2), some (.int a3), none, some (.int a5), none, none, some (.long a8), none, some (.int a10), some (.long a11), none, none] [.long b1, .long b0] w (ff_mo_tellSilent_134 self31 a2 a3 a5 a8 a10 a11 b0 b1 w) := by
  unfold ff_mo_tellSilent_134
  refine sm_ladd ii_mo_tellSilent_134 ?_
  refine sm_lstore [some (.ref 62), none, some (.int a2), some (.int a3), none, some (.int a5), some (.long (b0 + b1)), none, some (.long a8), none, some (.int a10), some (.long a11), none, none] ii_mo_tellSilent_135 rfl rfl ?_
  refine sm_lload ii_mo_tellSilent_137 rfl ?_
  refine sm_lload ii_mo_tellSilent_139 rfl ?_
  refine sm_ladd ii_mo_tellSilent_141 ?_
  refine sm_lstore [some (.ref 62), none, some (.int a2), some (.int a3), none, some (.int a5), some (.long (b0 + b1)), none, some (.long (a8 + a11)), none, some (.int a10), some (.long a11), none, none] ii_mo_tellSilent_142 rfl rfl ?_
  refine sm_iinc (a10 + (1 : Int32)) [some (.ref 62), none, some (.int a2), some (.int a3), none, some (.int a5), some (.long (b0 + b1)), none, some (.long (a8 + a11)), none, some (.int (a10 + (1 : Int32))), some (.long a11), none, none] ii_mo_tellSilent_144 rfl rfl rfl rfl ?_
  refine sm_goto 31 ii_mo_tellSilent_147 (by decide) ?_
  refine sm_msk [true, false, true, true, false, true, true, false, true, false, true, false, false, false] [some (.ref 62), none, some (.int a2), some (.int a3), none, some (.int a5), some (.long (b0 + b1)), none, some (.long (a8 + a11)), none, some (.int (a10 + (1 : Int32))), none, none, none] rfl ?_
  exact hself31 (a2) (a3) (a5) ((b0 + b1)) ((a8 + a11)) ((a10 + (1 : Int32))) w
noncomputable def ff_mo_tellSilent_79 (self31 : Int32 → Int32 → Int32 → Int64 → Int64 → Int32 → sm_Mem → sm_R) (self48 : Int32 → Int32 → Int32 → Int64 → Int64 → Int32 → Int64 → Int32 → sm_Mem → sm_R) (a2 : Int32) (a3 : Int32) (a5 : Int32) (a6 : Int64) (a8 : Int64) (a10 : Int32) (a13 : Int32) (b0 : Int64) (b1 : Int64) (w : sm_Mem) : sm_R := self48 (a2) (a3) (a5) (a6) (a8) (a10) ((b0 * b1)) ((a13 + (1 : Int32))) w
set_option maxHeartbeats 4000000 in
set_option maxRecDepth 100000 in
theorem ss_mo_tellSilent_79 {E : Nat × (Nat → Int32)} (self31 : Int32 → Int32 → Int32 → Int64 → Int64 → Int32 → sm_Mem → sm_R) (hself31 : ∀ (a2 : Int32) (a3 : Int32) (a5 : Int32) (a6 : Int64) (a8 : Int64) (a10 : Int32) (w : sm_Mem), sm_Sim E (mi_mo_tellSilent) 31 [some (.ref 62), none, some (.int a2), some (.int a3), none, some (.int a5), some (.long a6), none, some (.long a8), none, some (.int a10), none, none, none] [] w (self31 a2 a3 a5 a6 a8 a10 w)) (self48 : Int32 → Int32 → Int32 → Int64 → Int64 → Int32 → Int64 → Int32 → sm_Mem → sm_R) (hself48 : ∀ (a2 : Int32) (a3 : Int32) (a5 : Int32) (a6 : Int64) (a8 : Int64) (a10 : Int32) (a11 : Int64) (a13 : Int32) (w : sm_Mem), sm_Sim E (mi_mo_tellSilent) 48 [some (.ref 62), none, some (.int a2), some (.int a3), none, some (.int a5), some (.long a6), none, some (.long a8), none, some (.int a10), some (.long a11), none, some (.int a13)] [] w (self48 a2 a3 a5 a6 a8 a10 a11 a13 w)) (a2 : Int32) (a3 : Int32) (a5 : Int32) (a6 : Int64) (a8 : Int64) (a10 : Int32) (a13 : Int32) (b0 : Int64) (b1 : Int64) (w : sm_Mem) : sm_Sim E (mi_mo_tellSilent) 79 [some (.ref 62), none, some (.int a2), some (.int a3), none, some (.int a5), some (.long a6), none, some (.long a8), none, some (.int a10), none, none, some (.int a13)] [.long b1, .long b0] w (ff_mo_tellSilent_79 self31 self48 a2 a3 a5 a6 a8 a10 a13 b0 b1 w) := by
  unfold ff_mo_tellSilent_79
  refine sm_lmul ii_mo_tellSilent_79 ?_
  refine sm_lstore [some (.ref 62), none, some (.int a2), some (.int a3), none, some (.int a5), some (.long a6), none, some (.long a8), none, some (.int a10), some (.long (b0 * b1)), none, some (.int a13)] ii_mo_tellSilent_80 rfl rfl ?_
  refine sm_iinc (a13 + (1 : Int32)) [some (.ref 62), none, some (.int a2), some (.int a3), none, some (.int a5), some (.long a6), none, some (.long a8), none, some (.int a10), some (.long (b0 * b1)), none, some (.int (a13 + (1 : Int32)))] ii_mo_tellSilent_82 rfl rfl rfl rfl ?_
  refine sm_goto 48 ii_mo_tellSilent_85 (by decide) ?_
  exact hself48 (a2) (a3) (a5) (a6) (a8) (a10) ((b0 * b1)) ((a13 + (1 : Int32))) w
noncomputable def ff_mo_tellSilent_48_b (self31 : Int32 → Int32 → Int32 → Int64 → Int64 → Int32 → sm_Mem → sm_R) (self48 : Int32 → Int32 → Int32 → Int64 → Int64 → Int32 → Int64 → Int32 → sm_Mem → sm_R) (a2 : Int32) (a3 : Int32) (a5 : Int32) (a6 : Int64) (a8 : Int64) (a10 : Int32) (a11 : Int64) (a13 : Int32) (w : sm_Mem) : sm_R := (if (w.1 62 1) ≤ a13 then (sm_let (sm_wI w 62 23 a10) fun w1 => (sm_let (sm_wI w1 62 21 a5) fun w2 => (sm_cI (ff_mo_farGoal  w2) fun x3 w4 => (if a3 = (0 : Int32) then ff_mo_tellSilent_134 self31 (a2) (a3) (a5) (a8) (a10) (a11) (a6) ((a11 * (Int32.toInt64 x3))) w4 else (if x3 = a5 then ff_mo_tellSilent_134 self31 (a2) (a3) (a5) (a8) (a10) (a11) (a6) (a11) w4 else ff_mo_tellSilent_134 self31 (a2) (a3) (a5) (a8) (a10) (a11) (a6) ((0 : Int64)) w4))))) else (sm_cI (ff_mo_has (a10) (a13) w) fun x5 w6 => (if x5 = (0 : Int32) then ff_mo_tellSilent_79 self31 self48 (a2) (a3) (a5) (a6) (a8) (a10) (a13) (a11) ((Int32.toInt64 ((12 : Int32) - a2))) w6 else ff_mo_tellSilent_79 self31 self48 (a2) (a3) (a5) (a6) (a8) (a10) (a13) (a11) ((Int32.toInt64 a2)) w6)))
noncomputable def ff_mo_tellSilent_48_f (self31 : Int32 → Int32 → Int32 → Int64 → Int64 → Int32 → sm_Mem → sm_R) : Nat → Int32 → Int32 → Int32 → Int64 → Int64 → Int32 → Int64 → Int32 → sm_Mem → sm_R
  | 0, _, _, _, _, _, _, _, _, _ => none
  | n + 1, a2, a3, a5, a6, a8, a10, a11, a13, w => ff_mo_tellSilent_48_b self31 (ff_mo_tellSilent_48_f self31 n) a2 a3 a5 a6 a8 a10 a11 a13 w
noncomputable def ff_mo_tellSilent_48 (self31 : Int32 → Int32 → Int32 → Int64 → Int64 → Int32 → sm_Mem → sm_R) (a2 : Int32) (a3 : Int32) (a5 : Int32) (a6 : Int64) (a8 : Int64) (a10 : Int32) (a11 : Int64) (a13 : Int32) (w : sm_Mem) : sm_R := ff_mo_tellSilent_48_f self31 sm_N a2 a3 a5 a6 a8 a10 a11 a13 w
set_option maxHeartbeats 4000000 in
set_option maxRecDepth 100000 in
theorem ss_mo_tellSilent_48_b {E : Nat × (Nat → Int32)} (self31 : Int32 → Int32 → Int32 → Int64 → Int64 → Int32 → sm_Mem → sm_R) (hself31 : ∀ (a2 : Int32) (a3 : Int32) (a5 : Int32) (a6 : Int64) (a8 : Int64) (a10 : Int32) (w : sm_Mem), sm_Sim E (mi_mo_tellSilent) 31 [some (.ref 62), none, some (.int a2), some (.int a3), none, some (.int a5), some (.long a6), none, some (.long a8), none, some (.int a10), none, none, none] [] w (self31 a2 a3 a5 a6 a8 a10 w)) (self48 : Int32 → Int32 → Int32 → Int64 → Int64 → Int32 → Int64 → Int32 → sm_Mem → sm_R) (hself48 : ∀ (a2 : Int32) (a3 : Int32) (a5 : Int32) (a6 : Int64) (a8 : Int64) (a10 : Int32) (a11 : Int64) (a13 : Int32) (w : sm_Mem), sm_Sim E (mi_mo_tellSilent) 48 [some (.ref 62), none, some (.int a2), some (.int a3), none, some (.int a5), some (.long a6), none, some (.long a8), none, some (.int a10), some (.long a11), none, some (.int a13)] [] w (self48 a2 a3 a5 a6 a8 a10 a11 a13 w)) (a2 : Int32) (a3 : Int32) (a5 : Int32) (a6 : Int64) (a8 : Int64) (a10 : Int32) (a11 : Int64) (a13 : Int32) (w : sm_Mem) : sm_Sim E (mi_mo_tellSilent) 48 [some (.ref 62), none, some (.int a2), some (.int a3), none, some (.int a5), some (.long a6), none, some (.long a8), none, some (.int a10), some (.long a11), none, some (.int a13)] [] w (ff_mo_tellSilent_48_b self31 self48 a2 a3 a5 a6 a8 a10 a11 a13 w) := by
  unfold ff_mo_tellSilent_48_b
  refine sm_iload ii_mo_tellSilent_48 rfl ?_
  refine sm_aload_n ii_mo_tellSilent_50 rfl ?_
  refine sm_getI ii_mo_tellSilent_51 fl_mo_135 (k := 62) rfl ?_
  refine sm_icmp_ge 88 ii_mo_tellSilent_54 (by decide) ?_ ?_
  · refine sm_aload_n ii_mo_tellSilent_88 rfl ?_
    refine sm_iload ii_mo_tellSilent_89 rfl ?_
    refine sm_putI ii_mo_tellSilent_91 fp_mo_214 (k := 62) rfl (fun w1 => ?_)
    refine sm_aload_n ii_mo_tellSilent_94 rfl ?_
    refine sm_iload ii_mo_tellSilent_95 rfl ?_
    refine sm_putI ii_mo_tellSilent_97 fp_mo_208 (k := 62) rfl (fun w2 => ?_)
    refine sm_aload_n ii_mo_tellSilent_100 rfl ?_
    refine sm_cvI [] [] rfl ii_mo_tellSilent_101 ml_mo_254 (mf_mo_farGoal) (mv_mo_farGoal) (Nat.le_of_ble_eq_true rfl) rfl 7 rfl rfl rfl rfl (mc_mo_farGoal  w2) (fun x3 w4 => ?_)
    refine sm_istore [some (.ref 62), none, some (.int a2), some (.int a3), none, some (.int a5), some (.long a6), none, some (.long a8), none, some (.int a10), some (.long a11), none, some (.int x3)] ii_mo_tellSilent_104 rfl rfl ?_
    refine sm_lload ii_mo_tellSilent_106 rfl ?_
    refine sm_iload_n ii_mo_tellSilent_108 rfl ?_
    refine sm_if_eq 128 ii_mo_tellSilent_109 (by decide) ?_ ?_
    · refine sm_lload ii_mo_tellSilent_128 rfl ?_
      refine sm_iload ii_mo_tellSilent_130 rfl ?_
      refine sm_i2l ii_mo_tellSilent_132 ?_
      refine sm_lmul ii_mo_tellSilent_133 ?_
      refine sm_msk [true, false, true, true, false, true, false, false, true, false, true, true, false, false] [some (.ref 62), none, some (.int a2), some (.int a3), none, some (.int a5), none, none, some (.long a8), none, some (.int a10), some (.long a11), none, none] rfl ?_
      exact ss_mo_tellSilent_134 self31 hself31 (a2) (a3) (a5) (a8) (a10) (a11) (a6) ((a11 * (Int32.toInt64 x3))) w4
    · refine sm_iload ii_mo_tellSilent_112 rfl ?_
      refine sm_iload ii_mo_tellSilent_114 rfl ?_
      refine sm_icmp_ne 124 ii_mo_tellSilent_116 (by decide) ?_ ?_
      · refine sm_lload ii_mo_tellSilent_119 rfl ?_
        refine sm_goto 134 ii_mo_tellSilent_121 (by decide) ?_
        refine sm_msk [true, false, true, true, false, true, false, false, true, false, true, true, false, false] [some (.ref 62), none, some (.int a2), some (.int a3), none, some (.int a5), none, none, some (.long a8), none, some (.int a10), some (.long a11), none, none] rfl ?_
        exact ss_mo_tellSilent_134 self31 hself31 (a2) (a3) (a5) (a8) (a10) (a11) (a6) (a11) w4
      · refine sm_lconst (0 : Int64) ii_mo_tellSilent_124 (by decide) ?_
        refine sm_goto 134 ii_mo_tellSilent_125 (by decide) ?_
        refine sm_msk [true, false, true, true, false, true, false, false, true, false, true, true, false, false] [some (.ref 62), none, some (.int a2), some (.int a3), none, some (.int a5), none, none, some (.long a8), none, some (.int a10), some (.long a11), none, none] rfl ?_
        exact ss_mo_tellSilent_134 self31 hself31 (a2) (a3) (a5) (a8) (a10) (a11) (a6) ((0 : Int64)) w4
  · refine sm_lload ii_mo_tellSilent_57 rfl ?_
    refine sm_iload ii_mo_tellSilent_59 rfl ?_
    refine sm_iload ii_mo_tellSilent_61 rfl ?_
    refine sm_csI [.int a10, .int a13] [.long a11] rfl ii_mo_tellSilent_63 ml_mo_138 (mf_mo_has) (mv_mo_has) (Nat.le_of_ble_eq_true rfl) rfl rfl rfl (mc_mo_has (a10) (a13) w) (fun x5 w6 => ?_)
    refine sm_if_eq 74 ii_mo_tellSilent_66 (by decide) ?_ ?_
    · refine sm_bipush (12 : Int32) ii_mo_tellSilent_74 (by decide) ?_
      refine sm_iload_n ii_mo_tellSilent_76 rfl ?_
      refine sm_isub ii_mo_tellSilent_77 ?_
      refine sm_i2l ii_mo_tellSilent_78 ?_
      refine sm_msk [true, false, true, true, false, true, true, false, true, false, true, false, false, true] [some (.ref 62), none, some (.int a2), some (.int a3), none, some (.int a5), some (.long a6), none, some (.long a8), none, some (.int a10), none, none, some (.int a13)] rfl ?_
      exact ss_mo_tellSilent_79 self31 hself31 self48 hself48 (a2) (a3) (a5) (a6) (a8) (a10) (a13) (a11) ((Int32.toInt64 ((12 : Int32) - a2))) w6
    · refine sm_iload_n ii_mo_tellSilent_69 rfl ?_
      refine sm_i2l ii_mo_tellSilent_70 ?_
      refine sm_goto 79 ii_mo_tellSilent_71 (by decide) ?_
      refine sm_msk [true, false, true, true, false, true, true, false, true, false, true, false, false, true] [some (.ref 62), none, some (.int a2), some (.int a3), none, some (.int a5), some (.long a6), none, some (.long a8), none, some (.int a10), none, none, some (.int a13)] rfl ?_
      exact ss_mo_tellSilent_79 self31 hself31 self48 hself48 (a2) (a3) (a5) (a6) (a8) (a10) (a13) (a11) ((Int32.toInt64 a2)) w6
set_option maxHeartbeats 4000000 in
set_option maxRecDepth 100000 in
theorem ss_mo_tellSilent_48_f {E : Nat × (Nat → Int32)} (self31 : Int32 → Int32 → Int32 → Int64 → Int64 → Int32 → sm_Mem → sm_R) (hself31 : ∀ (a2 : Int32) (a3 : Int32) (a5 : Int32) (a6 : Int64) (a8 : Int64) (a10 : Int32) (w : sm_Mem), sm_Sim E (mi_mo_tellSilent) 31 [some (.ref 62), none, some (.int a2), some (.int a3), none, some (.int a5), some (.long a6), none, some (.long a8), none, some (.int a10), none, none, none] [] w (self31 a2 a3 a5 a6 a8 a10 w)) : ∀ (n : Nat) (a2 : Int32) (a3 : Int32) (a5 : Int32) (a6 : Int64) (a8 : Int64) (a10 : Int32) (a11 : Int64) (a13 : Int32) (w : sm_Mem), sm_Sim E (mi_mo_tellSilent) 48 [some (.ref 62), none, some (.int a2), some (.int a3), none, some (.int a5), some (.long a6), none, some (.long a8), none, some (.int a10), some (.long a11), none, some (.int a13)] [] w (ff_mo_tellSilent_48_f self31 n a2 a3 a5 a6 a8 a10 a11 a13 w)
  | 0, _, _, _, _, _, _, _, _, _ => fun _ _ h => by cases h
  | n + 1, a2, a3, a5, a6, a8, a10, a11, a13, w => ss_mo_tellSilent_48_b self31 hself31 _ (ss_mo_tellSilent_48_f self31 hself31 n) a2 a3 a5 a6 a8 a10 a11 a13 w
set_option maxHeartbeats 4000000 in
set_option maxRecDepth 100000 in
theorem ss_mo_tellSilent_48 {E : Nat × (Nat → Int32)} (self31 : Int32 → Int32 → Int32 → Int64 → Int64 → Int32 → sm_Mem → sm_R) (hself31 : ∀ (a2 : Int32) (a3 : Int32) (a5 : Int32) (a6 : Int64) (a8 : Int64) (a10 : Int32) (w : sm_Mem), sm_Sim E (mi_mo_tellSilent) 31 [some (.ref 62), none, some (.int a2), some (.int a3), none, some (.int a5), some (.long a6), none, some (.long a8), none, some (.int a10), none, none, none] [] w (self31 a2 a3 a5 a6 a8 a10 w)) (a2 : Int32) (a3 : Int32) (a5 : Int32) (a6 : Int64) (a8 : Int64) (a10 : Int32) (a11 : Int64) (a13 : Int32) (w : sm_Mem) : sm_Sim E (mi_mo_tellSilent) 48 [some (.ref 62), none, some (.int a2), some (.int a3), none, some (.int a5), some (.long a6), none, some (.long a8), none, some (.int a10), some (.long a11), none, some (.int a13)] [] w (ff_mo_tellSilent_48 self31 a2 a3 a5 a6 a8 a10 a11 a13 w) := ss_mo_tellSilent_48_f self31 hself31 sm_N a2 a3 a5 a6 a8 a10 a11 a13 w
noncomputable def ff_mo_tellSilent_31_b  (self31 : Int32 → Int32 → Int32 → Int64 → Int64 → Int32 → sm_Mem → sm_R) (a2 : Int32) (a3 : Int32) (a5 : Int32) (a6 : Int64) (a8 : Int64) (a10 : Int32) (w : sm_Mem) : sm_R := (if ((1 : Int32) <<< ((w.1 62 1) &&& (31 : Int32))) ≤ a10 then (sm_cI (ff_mo_tellParts (a6) (a8) w) fun x7 w8 => (some (.int x7, w8))) else ff_mo_tellSilent_48 self31 (a2) (a3) (a5) (a6) (a8) (a10) ((1 : Int64)) ((0 : Int32)) w)
noncomputable def ff_mo_tellSilent_31_f  : Nat → Int32 → Int32 → Int32 → Int64 → Int64 → Int32 → sm_Mem → sm_R
  | 0, _, _, _, _, _, _, _ => none
  | n + 1, a2, a3, a5, a6, a8, a10, w => ff_mo_tellSilent_31_b  (ff_mo_tellSilent_31_f  n) a2 a3 a5 a6 a8 a10 w
noncomputable def ff_mo_tellSilent_31  (a2 : Int32) (a3 : Int32) (a5 : Int32) (a6 : Int64) (a8 : Int64) (a10 : Int32) (w : sm_Mem) : sm_R := ff_mo_tellSilent_31_f  sm_N a2 a3 a5 a6 a8 a10 w
set_option maxHeartbeats 4000000 in
set_option maxRecDepth 100000 in
theorem ss_mo_tellSilent_31_b {E : Nat × (Nat → Int32)}  (self31 : Int32 → Int32 → Int32 → Int64 → Int64 → Int32 → sm_Mem → sm_R) (hself31 : ∀ (a2 : Int32) (a3 : Int32) (a5 : Int32) (a6 : Int64) (a8 : Int64) (a10 : Int32) (w : sm_Mem), sm_Sim E (mi_mo_tellSilent) 31 [some (.ref 62), none, some (.int a2), some (.int a3), none, some (.int a5), some (.long a6), none, some (.long a8), none, some (.int a10), none, none, none] [] w (self31 a2 a3 a5 a6 a8 a10 w)) (a2 : Int32) (a3 : Int32) (a5 : Int32) (a6 : Int64) (a8 : Int64) (a10 : Int32) (w : sm_Mem) : sm_Sim E (mi_mo_tellSilent) 31 [some (.ref 62), none, some (.int a2), some (.int a3), none, some (.int a5), some (.long a6), none, some (.long a8), none, some (.int a10), none, none, none] [] w (ff_mo_tellSilent_31_b  self31 a2 a3 a5 a6 a8 a10 w) := by
  unfold ff_mo_tellSilent_31_b
  refine sm_iload ii_mo_tellSilent_31 rfl ?_
  refine sm_iconst (1 : Int32) ii_mo_tellSilent_33 (by decide) ?_
  refine sm_aload_n ii_mo_tellSilent_34 rfl ?_
  refine sm_getI ii_mo_tellSilent_35 fl_mo_135 (k := 62) rfl ?_
  refine sm_ishl ii_mo_tellSilent_38 ?_
  refine sm_icmp_ge 150 ii_mo_tellSilent_39 (by decide) ?_ ?_
  · refine sm_aload_n ii_mo_tellSilent_150 rfl ?_
    refine sm_lload ii_mo_tellSilent_151 rfl ?_
    refine sm_lload ii_mo_tellSilent_153 rfl ?_
    refine sm_cvI [.long a6, .long a8] [] rfl ii_mo_tellSilent_155 ml_mo_284 (mf_mo_tellParts) (mv_mo_tellParts) (Nat.le_of_ble_eq_true rfl) rfl 7 rfl rfl rfl rfl (mc_mo_tellParts (a6) (a8) w) (fun x7 w8 => ?_)
    exact sm_iret ii_mo_tellSilent_158 rfl
  · refine sm_lconst (1 : Int64) ii_mo_tellSilent_42 (by decide) ?_
    refine sm_lstore [some (.ref 62), none, some (.int a2), some (.int a3), none, some (.int a5), some (.long a6), none, some (.long a8), none, some (.int a10), some (.long (1 : Int64)), none, none] ii_mo_tellSilent_43 rfl rfl ?_
    refine sm_iconst (0 : Int32) ii_mo_tellSilent_45 (by decide) ?_
    refine sm_istore [some (.ref 62), none, some (.int a2), some (.int a3), none, some (.int a5), some (.long a6), none, some (.long a8), none, some (.int a10), some (.long (1 : Int64)), none, some (.int (0 : Int32))] ii_mo_tellSilent_46 rfl rfl ?_
    exact ss_mo_tellSilent_48 self31 hself31 (a2) (a3) (a5) (a6) (a8) (a10) ((1 : Int64)) ((0 : Int32)) w
set_option maxHeartbeats 4000000 in
set_option maxRecDepth 100000 in
theorem ss_mo_tellSilent_31_f {E : Nat × (Nat → Int32)}  : ∀ (n : Nat) (a2 : Int32) (a3 : Int32) (a5 : Int32) (a6 : Int64) (a8 : Int64) (a10 : Int32) (w : sm_Mem), sm_Sim E (mi_mo_tellSilent) 31 [some (.ref 62), none, some (.int a2), some (.int a3), none, some (.int a5), some (.long a6), none, some (.long a8), none, some (.int a10), none, none, none] [] w (ff_mo_tellSilent_31_f  n a2 a3 a5 a6 a8 a10 w)
  | 0, _, _, _, _, _, _, _ => fun _ _ h => by cases h
  | n + 1, a2, a3, a5, a6, a8, a10, w => ss_mo_tellSilent_31_b  _ (ss_mo_tellSilent_31_f  n) a2 a3 a5 a6 a8 a10 w
set_option maxHeartbeats 4000000 in
set_option maxRecDepth 100000 in
theorem ss_mo_tellSilent_31 {E : Nat × (Nat → Int32)}  (a2 : Int32) (a3 : Int32) (a5 : Int32) (a6 : Int64) (a8 : Int64) (a10 : Int32) (w : sm_Mem) : sm_Sim E (mi_mo_tellSilent) 31 [some (.ref 62), none, some (.int a2), some (.int a3), none, some (.int a5), some (.long a6), none, some (.long a8), none, some (.int a10), none, none, none] [] w (ff_mo_tellSilent_31  a2 a3 a5 a6 a8 a10 w) := ss_mo_tellSilent_31_f  sm_N a2 a3 a5 a6 a8 a10 w
noncomputable def ff_mo_tellSilent  (a1 : Int32) (a2 : Int32) (a3 : Int32) (w : sm_Mem) : sm_R := (sm_cI (ff_mo_noGoal (a1) ((1 : Int32)) w) fun x9 w10 => (if x9 = (0 : Int32) then ff_mo_tellSilent_31 (a2) (a3) ((w10.1 62 21)) ((0 : Int64)) ((0 : Int64)) ((0 : Int32)) w10 else (some (.int x9, w10))))
set_option maxHeartbeats 4000000 in
set_option maxRecDepth 100000 in
theorem ss_mo_tellSilent_0 {E : Nat × (Nat → Int32)}  (a1 : Int32) (a2 : Int32) (a3 : Int32) (w : sm_Mem) : sm_Sim E (mi_mo_tellSilent) 0 [some (.ref 62), some (.int a1), some (.int a2), some (.int a3), none, none, none, none, none, none, none, none, none, none] [] w (ff_mo_tellSilent  a1 a2 a3 w) := by
  unfold ff_mo_tellSilent
  refine sm_aload_n ii_mo_tellSilent_0 rfl ?_
  refine sm_iload_n ii_mo_tellSilent_1 rfl ?_
  refine sm_iconst (1 : Int32) ii_mo_tellSilent_2 (by decide) ?_
  refine sm_cvI [.int a1, .int (1 : Int32)] [] rfl ii_mo_tellSilent_3 ml_mo_242 (mf_mo_noGoal) (mv_mo_noGoal) (Nat.le_of_ble_eq_true rfl) rfl 7 rfl rfl rfl rfl (mc_mo_noGoal (a1) ((1 : Int32)) w) (fun x9 w10 => ?_)
  refine sm_istore [some (.ref 62), some (.int a1), some (.int a2), some (.int a3), some (.int x9), none, none, none, none, none, none, none, none, none] ii_mo_tellSilent_6 rfl rfl ?_
  refine sm_iload ii_mo_tellSilent_8 rfl ?_
  refine sm_if_eq 16 ii_mo_tellSilent_10 (by decide) ?_ ?_
  · refine sm_aload_n ii_mo_tellSilent_16 rfl ?_
    refine sm_getI ii_mo_tellSilent_17 fl_mo_208 (k := 62) rfl ?_
    refine sm_istore [some (.ref 62), some (.int a1), some (.int a2), some (.int a3), some (.int x9), some (.int (w10.1 62 21)), none, none, none, none, none, none, none, none] ii_mo_tellSilent_20 rfl rfl ?_
    refine sm_lconst (0 : Int64) ii_mo_tellSilent_22 (by decide) ?_
    refine sm_lstore [some (.ref 62), some (.int a1), some (.int a2), some (.int a3), some (.int x9), some (.int (w10.1 62 21)), some (.long (0 : Int64)), none, none, none, none, none, none, none] ii_mo_tellSilent_23 rfl rfl ?_
    refine sm_lconst (0 : Int64) ii_mo_tellSilent_25 (by decide) ?_
    refine sm_lstore [some (.ref 62), some (.int a1), some (.int a2), some (.int a3), some (.int x9), some (.int (w10.1 62 21)), some (.long (0 : Int64)), none, some (.long (0 : Int64)), none, none, none, none, none] ii_mo_tellSilent_26 rfl rfl ?_
    refine sm_iconst (0 : Int32) ii_mo_tellSilent_28 (by decide) ?_
    refine sm_istore [some (.ref 62), some (.int a1), some (.int a2), some (.int a3), some (.int x9), some (.int (w10.1 62 21)), some (.long (0 : Int64)), none, some (.long (0 : Int64)), none, some (.int (0 : Int32)), none, none, none] ii_mo_tellSilent_29 rfl rfl ?_
    refine sm_msk [true, false, true, true, false, true, true, false, true, false, true, false, false, false] [some (.ref 62), none, some (.int a2), some (.int a3), none, some (.int (w10.1 62 21)), some (.long (0 : Int64)), none, some (.long (0 : Int64)), none, some (.int (0 : Int32)), none, none, none] rfl ?_
    exact ss_mo_tellSilent_31 (a2) (a3) ((w10.1 62 21)) ((0 : Int64)) ((0 : Int64)) ((0 : Int32)) w10
  · refine sm_iload ii_mo_tellSilent_13 rfl ?_
    exact sm_iret ii_mo_tellSilent_15 rfl
set_option maxHeartbeats 4000000 in
set_option maxRecDepth 100000 in
theorem mc_mo_tellSilent (a1 : Int32) (a2 : Int32) (a3 : Int32) (w : sm_Mem) : sm_MC mi_mo_tellSilent [.ref 62, .int a1, .int a2, .int a3] w (ff_mo_tellSilent a1 a2 a3 w) := sm_MC_of (0, fun _ => 0) (by decide +kernel) (by decide) rfl (Nat.le_of_ble_eq_true rfl) (ss_mo_tellSilent_0 a1 a2 a3 w)
abbrev mi_mo_odds : sm_MI := (⟨"HerOrdersModel", "odds", "(II)I"⟩, prog_9_method_93_code, 3, (some .int), 9)
set_option maxRecDepth 100000 in
theorem mf_mo_odds : sm_MF mi_mo_odds 2 := ⟨List.mem_of_getElem? (i := 1382) (by decide +kernel), List.mem_of_getElem? (i := 132) (by decide +kernel), ⟨by decide, by decide⟩, by decide +kernel⟩
set_option maxRecDepth 100000 in
theorem mv_mo_odds : sm_MFV mi_mo_odds := ⟨List.mem_of_getElem? (i := 1380) (by decide +kernel), List.mem_of_getElem? (i := 1381) (by decide +kernel)⟩
set_option maxRecDepth 100000 in
theorem ii_mo_odds_0 : sm_D prog_9_method_93_code 0 1 1 (.iload_n 1) := ⟨by decide +kernel, rfl⟩
set_option maxRecDepth 100000 in
theorem ii_mo_odds_1 : sm_D prog_9_method_93_code 1 3 4 (.invokestatic 77) := ⟨by decide +kernel, rfl⟩
set_option maxRecDepth 100000 in
theorem ii_mo_odds_4 : sm_D prog_9_method_93_code 4 3 7 (.ifCond .eq 25) := ⟨by decide +kernel, rfl⟩
set_option maxRecDepth 100000 in
theorem ii_mo_odds_7 : sm_D prog_9_method_93_code 7 1 8 (.iload_n 2) := ⟨by decide +kernel, rfl⟩
set_option maxRecDepth 100000 in
theorem ii_mo_odds_8 : sm_D prog_9_method_93_code 8 1 9 (.i2l) := ⟨by decide +kernel, rfl⟩
set_option maxRecDepth 100000 in
theorem ii_mo_odds_9 : sm_D prog_9_method_93_code 9 1 10 (.lconst 0) := ⟨by decide +kernel, rfl⟩
set_option maxRecDepth 100000 in
theorem ii_mo_odds_10 : sm_D prog_9_method_93_code 10 3 13 (.ldc2_w 288) := ⟨by decide +kernel, rfl⟩
set_option maxRecDepth 100000 in
theorem ii_mo_odds_13 : sm_D prog_9_method_93_code 13 3 16 (.invokestatic 71) := ⟨by decide +kernel, rfl⟩
set_option maxRecDepth 100000 in
theorem ii_mo_odds_16 : sm_D prog_9_method_93_code 16 3 19 (.ifCond .eq 13) := ⟨by decide +kernel, rfl⟩
set_option maxRecDepth 100000 in
theorem ii_mo_odds_19 : sm_D prog_9_method_93_code 19 1 20 (.aload_n 0) := ⟨by decide +kernel, rfl⟩
set_option maxRecDepth 100000 in
theorem ii_mo_odds_20 : sm_D prog_9_method_93_code 20 1 21 (.iload_n 1) := ⟨by decide +kernel, rfl⟩
set_option maxRecDepth 100000 in
theorem ii_mo_odds_21 : sm_D prog_9_method_93_code 21 1 22 (.iload_n 2) := ⟨by decide +kernel, rfl⟩
set_option maxRecDepth 100000 in
theorem ii_mo_odds_22 : sm_D prog_9_method_93_code 22 1 23 (.iconst 1) := ⟨by decide +kernel, rfl⟩
set_option maxRecDepth 100000 in
theorem ii_mo_odds_23 : sm_D prog_9_method_93_code 23 3 26 (.invokevirtual 290) := ⟨by decide +kernel, rfl⟩
set_option maxRecDepth 100000 in
theorem ii_mo_odds_26 : sm_D prog_9_method_93_code 26 3 29 (.goto 4) := ⟨by decide +kernel, rfl⟩
set_option maxRecDepth 100000 in
theorem ii_mo_odds_29 : sm_D prog_9_method_93_code 29 1 30 (.iconst (-1)) := ⟨by decide +kernel, rfl⟩
set_option maxRecDepth 100000 in
theorem ii_mo_odds_30 : sm_D prog_9_method_93_code 30 1 31 (.ireturn) := ⟨by decide +kernel, rfl⟩
noncomputable def ff_mo_odds  (a1 : Int32) (a2 : Int32) (w : sm_Mem) : sm_R := (sm_cI (ff_mo_isRow (a1) w) fun x1 w2 => (if x1 = (0 : Int32) then (some (.int (-1 : Int32), w2)) else (sm_cI (ff_mo_in ((Int32.toInt64 a2)) ((0 : Int64)) ((12 : Int64)) w2) fun x3 w4 => (if x3 = (0 : Int32) then (some (.int (-1 : Int32), w4)) else (sm_cI (ff_mo_tellSilent (a1) (a2) ((1 : Int32)) w4) fun x5 w6 => (some (.int x5, w6)))))))
set_option maxHeartbeats 4000000 in
set_option maxRecDepth 100000 in
theorem ss_mo_odds_0 {E : Nat × (Nat → Int32)}  (a1 : Int32) (a2 : Int32) (w : sm_Mem) : sm_Sim E (mi_mo_odds) 0 [some (.ref 62), some (.int a1), some (.int a2)] [] w (ff_mo_odds  a1 a2 w) := by
  unfold ff_mo_odds
  refine sm_iload_n ii_mo_odds_0 rfl ?_
  refine sm_csI [.int a1] [] rfl ii_mo_odds_1 ml_mo_77 (mf_mo_isRow) (mv_mo_isRow) (Nat.le_of_ble_eq_true rfl) rfl rfl rfl (mc_mo_isRow (a1) w) (fun x1 w2 => ?_)
  refine sm_if_eq 29 ii_mo_odds_4 (by decide) ?_ ?_
  · refine sm_iconst (-1 : Int32) ii_mo_odds_29 (by decide) ?_
    exact sm_iret ii_mo_odds_30 rfl
  · refine sm_iload_n ii_mo_odds_7 rfl ?_
    refine sm_i2l ii_mo_odds_8 ?_
    refine sm_lconst (0 : Int64) ii_mo_odds_9 (by decide) ?_
    refine sm_ldc2 (12 : Int64) ii_mo_odds_10 (List.mem_of_getElem? (i := 1383) (by decide +kernel)) ?_
    refine sm_csI [.long (Int32.toInt64 a2), .long (0 : Int64), .long (12 : Int64)] [] rfl ii_mo_odds_13 ml_mo_71 (mf_mo_in) (mv_mo_in) (Nat.le_of_ble_eq_true rfl) rfl rfl rfl (mc_mo_in ((Int32.toInt64 a2)) ((0 : Int64)) ((12 : Int64)) w2) (fun x3 w4 => ?_)
    refine sm_if_eq 29 ii_mo_odds_16 (by decide) ?_ ?_
    · refine sm_iconst (-1 : Int32) ii_mo_odds_29 (by decide) ?_
      exact sm_iret ii_mo_odds_30 rfl
    · refine sm_aload_n ii_mo_odds_19 rfl ?_
      refine sm_iload_n ii_mo_odds_20 rfl ?_
      refine sm_iload_n ii_mo_odds_21 rfl ?_
      refine sm_iconst (1 : Int32) ii_mo_odds_22 (by decide) ?_
      refine sm_cvI [.int a1, .int a2, .int (1 : Int32)] [] rfl ii_mo_odds_23 ml_mo_290 (mf_mo_tellSilent) (mv_mo_tellSilent) (Nat.le_of_ble_eq_true rfl) rfl 7 rfl rfl rfl rfl (mc_mo_tellSilent (a1) (a2) ((1 : Int32)) w4) (fun x5 w6 => ?_)
      refine sm_goto 30 ii_mo_odds_26 (by decide) ?_
      exact sm_iret ii_mo_odds_30 rfl
set_option maxHeartbeats 4000000 in
set_option maxRecDepth 100000 in
theorem mc_mo_odds (a1 : Int32) (a2 : Int32) (w : sm_Mem) : sm_MC mi_mo_odds [.ref 62, .int a1, .int a2] w (ff_mo_odds a1 a2 w) := sm_MC_of (0, fun _ => 0) (by decide +kernel) (by decide) rfl (Nat.le_of_ble_eq_true rfl) (ss_mo_odds_0 a1 a2 w)
abbrev mi_wy_weightOfWords : sm_MI := (⟨"HerOrders$Ways", "weightOfWords", "(I)J"⟩, prog_7_method_14_code, 5, (some .long), 2)
set_option maxRecDepth 100000 in
theorem mf_wy_weightOfWords : sm_MF mi_wy_weightOfWords 1 := ⟨List.mem_of_getElem? (i := 855) (by decide +kernel), List.mem_of_getElem? (i := 129) (by decide +kernel), ⟨by decide, by decide⟩, by decide +kernel⟩
set_option maxRecDepth 100000 in
theorem mv_wy_weightOfWords : sm_MFV mi_wy_weightOfWords := ⟨List.mem_of_getElem? (i := 854) (by decide +kernel), List.mem_of_getElem? (i := 64) (by decide +kernel)⟩
set_option maxRecDepth 100000 in
theorem ii_wy_weightOfWords_0 : sm_D prog_7_method_14_code 0 1 1 (.aload_n 0) := ⟨by decide +kernel, rfl⟩
set_option maxRecDepth 100000 in
theorem ii_wy_weightOfWords_1 : sm_D prog_7_method_14_code 1 3 4 (.invokevirtual 120) := ⟨by decide +kernel, rfl⟩
set_option maxRecDepth 100000 in
theorem ii_wy_weightOfWords_4 : sm_D prog_7_method_14_code 4 1 5 (.lconst 0) := ⟨by decide +kernel, rfl⟩
set_option maxRecDepth 100000 in
theorem ii_wy_weightOfWords_5 : sm_D prog_7_method_14_code 5 1 6 (.lstore_n 2) := ⟨by decide +kernel, rfl⟩
set_option maxRecDepth 100000 in
theorem ii_wy_weightOfWords_6 : sm_D prog_7_method_14_code 6 1 7 (.iconst 0) := ⟨by decide +kernel, rfl⟩
set_option maxRecDepth 100000 in
theorem ii_wy_weightOfWords_7 : sm_D prog_7_method_14_code 7 2 9 (.istore 4) := ⟨by decide +kernel, rfl⟩
set_option maxRecDepth 100000 in
theorem ii_wy_weightOfWords_9 : sm_D prog_7_method_14_code 9 2 11 (.iload 4) := ⟨by decide +kernel, rfl⟩
set_option maxRecDepth 100000 in
theorem ii_wy_weightOfWords_11 : sm_D prog_7_method_14_code 11 1 12 (.aload_n 0) := ⟨by decide +kernel, rfl⟩
set_option maxRecDepth 100000 in
theorem ii_wy_weightOfWords_12 : sm_D prog_7_method_14_code 12 3 15 (.getfield 9) := ⟨by decide +kernel, rfl⟩
set_option maxRecDepth 100000 in
theorem ii_wy_weightOfWords_15 : sm_D prog_7_method_14_code 15 3 18 (.invokevirtual 123) := ⟨by decide +kernel, rfl⟩
set_option maxRecDepth 100000 in
theorem ii_wy_weightOfWords_18 : sm_D prog_7_method_14_code 18 3 21 (.if_icmp .gt 28) := ⟨by decide +kernel, rfl⟩
set_option maxRecDepth 100000 in
theorem ii_wy_weightOfWords_21 : sm_D prog_7_method_14_code 21 1 22 (.lload_n 2) := ⟨by decide +kernel, rfl⟩
set_option maxRecDepth 100000 in
theorem ii_wy_weightOfWords_22 : sm_D prog_7_method_14_code 22 1 23 (.aload_n 0) := ⟨by decide +kernel, rfl⟩
set_option maxRecDepth 100000 in
theorem ii_wy_weightOfWords_23 : sm_D prog_7_method_14_code 23 3 26 (.getfield 28) := ⟨by decide +kernel, rfl⟩
set_option maxRecDepth 100000 in
theorem ii_wy_weightOfWords_26 : sm_D prog_7_method_14_code 26 2 28 (.iload 4) := ⟨by decide +kernel, rfl⟩
set_option maxRecDepth 100000 in
theorem ii_wy_weightOfWords_28 : sm_D prog_7_method_14_code 28 1 29 (.iaload) := ⟨by decide +kernel, rfl⟩
set_option maxRecDepth 100000 in
theorem ii_wy_weightOfWords_29 : sm_D prog_7_method_14_code 29 1 30 (.i2l) := ⟨by decide +kernel, rfl⟩
set_option maxRecDepth 100000 in
theorem ii_wy_weightOfWords_30 : sm_D prog_7_method_14_code 30 1 31 (.aload_n 0) := ⟨by decide +kernel, rfl⟩
set_option maxRecDepth 100000 in
theorem ii_wy_weightOfWords_31 : sm_D prog_7_method_14_code 31 2 33 (.iload 4) := ⟨by decide +kernel, rfl⟩
set_option maxRecDepth 100000 in
theorem ii_wy_weightOfWords_33 : sm_D prog_7_method_14_code 33 1 34 (.iload_n 1) := ⟨by decide +kernel, rfl⟩
set_option maxRecDepth 100000 in
theorem ii_wy_weightOfWords_34 : sm_D prog_7_method_14_code 34 3 37 (.invokevirtual 126) := ⟨by decide +kernel, rfl⟩
set_option maxRecDepth 100000 in
theorem ii_wy_weightOfWords_37 : sm_D prog_7_method_14_code 37 1 38 (.lmul) := ⟨by decide +kernel, rfl⟩
set_option maxRecDepth 100000 in
theorem ii_wy_weightOfWords_38 : sm_D prog_7_method_14_code 38 1 39 (.ladd) := ⟨by decide +kernel, rfl⟩
set_option maxRecDepth 100000 in
theorem ii_wy_weightOfWords_39 : sm_D prog_7_method_14_code 39 1 40 (.lstore_n 2) := ⟨by decide +kernel, rfl⟩
set_option maxRecDepth 100000 in
theorem ii_wy_weightOfWords_40 : sm_D prog_7_method_14_code 40 3 43 (.iinc 4 1) := ⟨by decide +kernel, rfl⟩
set_option maxRecDepth 100000 in
theorem ii_wy_weightOfWords_43 : sm_D prog_7_method_14_code 43 3 46 (.goto (-34)) := ⟨by decide +kernel, rfl⟩
set_option maxRecDepth 100000 in
theorem ii_wy_weightOfWords_46 : sm_D prog_7_method_14_code 46 1 47 (.lload_n 2) := ⟨by decide +kernel, rfl⟩
set_option maxRecDepth 100000 in
theorem ii_wy_weightOfWords_47 : sm_D prog_7_method_14_code 47 1 48 (.lreturn) := ⟨by decide +kernel, rfl⟩
noncomputable def ff_wy_weightOfWords_9_b  (self9 : Int32 → Int64 → Int32 → sm_Mem → sm_R) (a1 : Int32) (a2 : Int64) (a4 : Int32) (w : sm_Mem) : sm_R := (sm_cI (ff_hs_allSpeakers  w) fun x1 w2 => (if x1 < a4 then (some (.long a2, w2)) else (Option.bind (sm_rd w2 54 64 a4) fun x3 => (sm_cL (ff_wy_weightOf (a4) (a1) w2) fun x4 w5 => self9 (a1) ((a2 + ((Int32.toInt64 x3) * x4))) ((a4 + (1 : Int32))) w5))))
noncomputable def ff_wy_weightOfWords_9_f  : Nat → Int32 → Int64 → Int32 → sm_Mem → sm_R
  | 0, _, _, _, _ => none
  | n + 1, a1, a2, a4, w => ff_wy_weightOfWords_9_b  (ff_wy_weightOfWords_9_f  n) a1 a2 a4 w
noncomputable def ff_wy_weightOfWords_9  (a1 : Int32) (a2 : Int64) (a4 : Int32) (w : sm_Mem) : sm_R := ff_wy_weightOfWords_9_f  sm_N a1 a2 a4 w
set_option maxHeartbeats 4000000 in
set_option maxRecDepth 100000 in
theorem ss_wy_weightOfWords_9_b {E : Nat × (Nat → Int32)}  (self9 : Int32 → Int64 → Int32 → sm_Mem → sm_R) (hself9 : ∀ (a1 : Int32) (a2 : Int64) (a4 : Int32) (w : sm_Mem), sm_Sim E (mi_wy_weightOfWords) 9 [some (.ref 49), some (.int a1), some (.long a2), none, some (.int a4)] [] w (self9 a1 a2 a4 w)) (a1 : Int32) (a2 : Int64) (a4 : Int32) (w : sm_Mem) : sm_Sim E (mi_wy_weightOfWords) 9 [some (.ref 49), some (.int a1), some (.long a2), none, some (.int a4)] [] w (ff_wy_weightOfWords_9_b  self9 a1 a2 a4 w) := by
  unfold ff_wy_weightOfWords_9_b
  refine sm_iload ii_wy_weightOfWords_9 rfl ?_
  refine sm_aload_n ii_wy_weightOfWords_11 rfl ?_
  refine sm_getR 36 ii_wy_weightOfWords_12 fl_wy_9 (k := 49) rfl ?_
  refine sm_cvI [] [.int a4] rfl ii_wy_weightOfWords_15 ml_wy_123 (mf_hs_allSpeakers) (mv_hs_allSpeakers) (Nat.le_of_ble_eq_true rfl) rfl 1 rfl rfl rfl rfl (mc_hs_allSpeakers  w) (fun x1 w2 => ?_)
  refine sm_icmp_gt 46 ii_wy_weightOfWords_18 (by decide) ?_ ?_
  · refine sm_lload_n ii_wy_weightOfWords_46 rfl ?_
    exact sm_lret ii_wy_weightOfWords_47 rfl
  · refine sm_lload_n ii_wy_weightOfWords_21 rfl ?_
    refine sm_aload_n ii_wy_weightOfWords_22 rfl ?_
    refine sm_getR 54 ii_wy_weightOfWords_23 fl_wy_28 (k := 49) rfl ?_
    refine sm_iload ii_wy_weightOfWords_26 rfl ?_
    refine sm_iald ii_wy_weightOfWords_28 (k := 54) rfl (fun x3 => ?_)
    refine sm_i2l ii_wy_weightOfWords_29 ?_
    refine sm_aload_n ii_wy_weightOfWords_30 rfl ?_
    refine sm_iload ii_wy_weightOfWords_31 rfl ?_
    refine sm_iload_n ii_wy_weightOfWords_33 rfl ?_
    refine sm_cvL [.int a4, .int a1] [.long (Int32.toInt64 x3), .long a2] rfl ii_wy_weightOfWords_34 ml_wy_126 (mf_wy_weightOf) (mv_wy_weightOf) (Nat.le_of_ble_eq_true rfl) rfl 5 rfl rfl rfl rfl (mc_wy_weightOf (a4) (a1) w2) (fun x4 w5 => ?_)
    refine sm_lmul ii_wy_weightOfWords_37 ?_
    refine sm_ladd ii_wy_weightOfWords_38 ?_
    refine sm_lstore_n [some (.ref 49), some (.int a1), some (.long (a2 + ((Int32.toInt64 x3) * x4))), none, some (.int a4)] ii_wy_weightOfWords_39 rfl rfl ?_
    refine sm_iinc (a4 + (1 : Int32)) [some (.ref 49), some (.int a1), some (.long (a2 + ((Int32.toInt64 x3) * x4))), none, some (.int (a4 + (1 : Int32)))] ii_wy_weightOfWords_40 rfl rfl rfl rfl ?_
    refine sm_goto 9 ii_wy_weightOfWords_43 (by decide) ?_
    exact hself9 (a1) ((a2 + ((Int32.toInt64 x3) * x4))) ((a4 + (1 : Int32))) w5
set_option maxHeartbeats 4000000 in
set_option maxRecDepth 100000 in
theorem ss_wy_weightOfWords_9_f {E : Nat × (Nat → Int32)}  : ∀ (n : Nat) (a1 : Int32) (a2 : Int64) (a4 : Int32) (w : sm_Mem), sm_Sim E (mi_wy_weightOfWords) 9 [some (.ref 49), some (.int a1), some (.long a2), none, some (.int a4)] [] w (ff_wy_weightOfWords_9_f  n a1 a2 a4 w)
  | 0, _, _, _, _ => fun _ _ h => by cases h
  | n + 1, a1, a2, a4, w => ss_wy_weightOfWords_9_b  _ (ss_wy_weightOfWords_9_f  n) a1 a2 a4 w
set_option maxHeartbeats 4000000 in
set_option maxRecDepth 100000 in
theorem ss_wy_weightOfWords_9 {E : Nat × (Nat → Int32)}  (a1 : Int32) (a2 : Int64) (a4 : Int32) (w : sm_Mem) : sm_Sim E (mi_wy_weightOfWords) 9 [some (.ref 49), some (.int a1), some (.long a2), none, some (.int a4)] [] w (ff_wy_weightOfWords_9  a1 a2 a4 w) := ss_wy_weightOfWords_9_f  sm_N a1 a2 a4 w
noncomputable def ff_wy_weightOfWords  (a1 : Int32) (w : sm_Mem) : sm_R := (sm_cV (ff_wy_spreadReach  w) fun w7 => ff_wy_weightOfWords_9 (a1) ((0 : Int64)) ((0 : Int32)) w7)
set_option maxHeartbeats 4000000 in
set_option maxRecDepth 100000 in
theorem ss_wy_weightOfWords_0 {E : Nat × (Nat → Int32)}  (a1 : Int32) (w : sm_Mem) : sm_Sim E (mi_wy_weightOfWords) 0 [some (.ref 49), some (.int a1), none, none, none] [] w (ff_wy_weightOfWords  a1 w) := by
  unfold ff_wy_weightOfWords
  refine sm_aload_n ii_wy_weightOfWords_0 rfl ?_
  refine sm_cvV [] [] rfl ii_wy_weightOfWords_1 ml_wy_120 (mf_wy_spreadReach) (mv_wy_spreadReach) (Nat.le_of_ble_eq_true rfl) rfl 5 rfl rfl rfl rfl (mc_wy_spreadReach  w) (fun w7 => ?_)
  refine sm_lconst (0 : Int64) ii_wy_weightOfWords_4 (by decide) ?_
  refine sm_lstore_n [some (.ref 49), some (.int a1), some (.long (0 : Int64)), none, none] ii_wy_weightOfWords_5 rfl rfl ?_
  refine sm_iconst (0 : Int32) ii_wy_weightOfWords_6 (by decide) ?_
  refine sm_istore [some (.ref 49), some (.int a1), some (.long (0 : Int64)), none, some (.int (0 : Int32))] ii_wy_weightOfWords_7 rfl rfl ?_
  exact ss_wy_weightOfWords_9 (a1) ((0 : Int64)) ((0 : Int32)) w7
set_option maxHeartbeats 4000000 in
set_option maxRecDepth 100000 in
theorem mc_wy_weightOfWords (a1 : Int32) (w : sm_Mem) : sm_MC mi_wy_weightOfWords [.ref 49, .int a1] w (ff_wy_weightOfWords a1 w) := sm_MC_of (0, fun _ => 0) (by decide +kernel) (by decide) rfl (Nat.le_of_ble_eq_true rfl) (ss_wy_weightOfWords_0 a1 w)
abbrev mi_ho_mid : sm_MI := (⟨"HerOrders", "mid", "(II)I"⟩, prog_1_method_37_code, 4, (some .int), 15)
set_option maxRecDepth 100000 in
theorem mf_ho_mid : sm_MF mi_ho_mid 2 := ⟨List.mem_of_getElem? (i := 851) (by decide +kernel), List.mem_of_getElem? (i := 124) (by decide +kernel), ⟨by decide, by decide⟩, by decide +kernel⟩
set_option maxRecDepth 100000 in
theorem mv_ho_mid : sm_MFV mi_ho_mid := ⟨List.mem_of_getElem? (i := 849) (by decide +kernel), List.mem_of_getElem? (i := 850) (by decide +kernel)⟩
set_option maxRecDepth 100000 in
theorem ii_ho_mid_0 : sm_D prog_1_method_37_code 0 1 1 (.iload_n 2) := ⟨by decide +kernel, rfl⟩
set_option maxRecDepth 100000 in
theorem ii_ho_mid_1 : sm_D prog_1_method_37_code 1 3 4 (.ifCond .lt 9) := ⟨by decide +kernel, rfl⟩
set_option maxRecDepth 100000 in
theorem ii_ho_mid_4 : sm_D prog_1_method_37_code 4 1 5 (.iload_n 2) := ⟨by decide +kernel, rfl⟩
set_option maxRecDepth 100000 in
theorem ii_ho_mid_5 : sm_D prog_1_method_37_code 5 2 7 (.bipush 12) := ⟨by decide +kernel, rfl⟩
set_option maxRecDepth 100000 in
theorem ii_ho_mid_7 : sm_D prog_1_method_37_code 7 3 10 (.if_icmp .le 5) := ⟨by decide +kernel, rfl⟩
set_option maxRecDepth 100000 in
theorem ii_ho_mid_10 : sm_D prog_1_method_37_code 10 1 11 (.iconst (-1)) := ⟨by decide +kernel, rfl⟩
set_option maxRecDepth 100000 in
theorem ii_ho_mid_11 : sm_D prog_1_method_37_code 11 1 12 (.ireturn) := ⟨by decide +kernel, rfl⟩
set_option maxRecDepth 100000 in
theorem ii_ho_mid_12 : sm_D prog_1_method_37_code 12 1 13 (.aload_n 0) := ⟨by decide +kernel, rfl⟩
set_option maxRecDepth 100000 in
theorem ii_ho_mid_13 : sm_D prog_1_method_37_code 13 1 14 (.iload_n 1) := ⟨by decide +kernel, rfl⟩
set_option maxRecDepth 100000 in
theorem ii_ho_mid_14 : sm_D prog_1_method_37_code 14 1 15 (.iconst 5) := ⟨by decide +kernel, rfl⟩
set_option maxRecDepth 100000 in
theorem ii_ho_mid_15 : sm_D prog_1_method_37_code 15 3 18 (.invokevirtual 192) := ⟨by decide +kernel, rfl⟩
set_option maxRecDepth 100000 in
theorem ii_ho_mid_18 : sm_D prog_1_method_37_code 18 1 19 (.istore_n 3) := ⟨by decide +kernel, rfl⟩
set_option maxRecDepth 100000 in
theorem ii_ho_mid_19 : sm_D prog_1_method_37_code 19 1 20 (.iload_n 3) := ⟨by decide +kernel, rfl⟩
set_option maxRecDepth 100000 in
theorem ii_ho_mid_20 : sm_D prog_1_method_37_code 20 3 23 (.ifCond .eq 5) := ⟨by decide +kernel, rfl⟩
set_option maxRecDepth 100000 in
theorem ii_ho_mid_23 : sm_D prog_1_method_37_code 23 1 24 (.iload_n 3) := ⟨by decide +kernel, rfl⟩
set_option maxRecDepth 100000 in
theorem ii_ho_mid_24 : sm_D prog_1_method_37_code 24 1 25 (.ireturn) := ⟨by decide +kernel, rfl⟩
set_option maxRecDepth 100000 in
theorem ii_ho_mid_25 : sm_D prog_1_method_37_code 25 1 26 (.aload_n 0) := ⟨by decide +kernel, rfl⟩
set_option maxRecDepth 100000 in
theorem ii_ho_mid_26 : sm_D prog_1_method_37_code 26 3 29 (.getfield 40) := ⟨by decide +kernel, rfl⟩
set_option maxRecDepth 100000 in
theorem ii_ho_mid_29 : sm_D prog_1_method_37_code 29 1 30 (.aload_n 0) := ⟨by decide +kernel, rfl⟩
set_option maxRecDepth 100000 in
theorem ii_ho_mid_30 : sm_D prog_1_method_37_code 30 3 33 (.getfield 11) := ⟨by decide +kernel, rfl⟩
set_option maxRecDepth 100000 in
theorem ii_ho_mid_33 : sm_D prog_1_method_37_code 33 1 34 (.iload_n 1) := ⟨by decide +kernel, rfl⟩
set_option maxRecDepth 100000 in
theorem ii_ho_mid_34 : sm_D prog_1_method_37_code 34 1 35 (.aaload) := ⟨by decide +kernel, rfl⟩
set_option maxRecDepth 100000 in
theorem ii_ho_mid_35 : sm_D prog_1_method_37_code 35 2 37 (.bipush (-9)) := ⟨by decide +kernel, rfl⟩
set_option maxRecDepth 100000 in
theorem ii_ho_mid_37 : sm_D prog_1_method_37_code 37 3 40 (.invokevirtual 195) := ⟨by decide +kernel, rfl⟩
set_option maxRecDepth 100000 in
theorem ii_ho_mid_40 : sm_D prog_1_method_37_code 40 1 41 (.aload_n 0) := ⟨by decide +kernel, rfl⟩
set_option maxRecDepth 100000 in
theorem ii_ho_mid_41 : sm_D prog_1_method_37_code 41 3 44 (.getfield 54) := ⟨by decide +kernel, rfl⟩
set_option maxRecDepth 100000 in
theorem ii_ho_mid_44 : sm_D prog_1_method_37_code 44 1 45 (.aload_n 0) := ⟨by decide +kernel, rfl⟩
set_option maxRecDepth 100000 in
theorem ii_ho_mid_45 : sm_D prog_1_method_37_code 45 3 48 (.getfield 40) := ⟨by decide +kernel, rfl⟩
set_option maxRecDepth 100000 in
theorem ii_ho_mid_48 : sm_D prog_1_method_37_code 48 1 49 (.iload_n 2) := ⟨by decide +kernel, rfl⟩
set_option maxRecDepth 100000 in
theorem ii_ho_mid_49 : sm_D prog_1_method_37_code 49 3 52 (.invokevirtual 289) := ⟨by decide +kernel, rfl⟩
set_option maxRecDepth 100000 in
theorem ii_ho_mid_52 : sm_D prog_1_method_37_code 52 1 53 (.aload_n 0) := ⟨by decide +kernel, rfl⟩
set_option maxRecDepth 100000 in
theorem ii_ho_mid_53 : sm_D prog_1_method_37_code 53 3 56 (.getfield 40) := ⟨by decide +kernel, rfl⟩
set_option maxRecDepth 100000 in
theorem ii_ho_mid_56 : sm_D prog_1_method_37_code 56 3 59 (.invokevirtual 286) := ⟨by decide +kernel, rfl⟩
set_option maxRecDepth 100000 in
theorem ii_ho_mid_59 : sm_D prog_1_method_37_code 59 3 62 (.invokevirtual 203) := ⟨by decide +kernel, rfl⟩
set_option maxRecDepth 100000 in
theorem ii_ho_mid_62 : sm_D prog_1_method_37_code 62 1 63 (.iconst 1) := ⟨by decide +kernel, rfl⟩
set_option maxRecDepth 100000 in
theorem ii_ho_mid_63 : sm_D prog_1_method_37_code 63 1 64 (.ireturn) := ⟨by decide +kernel, rfl⟩
noncomputable def ff_ho_mid  (a1 : Int32) (a2 : Int32) (w : sm_Mem) : sm_R := (if a2 < (0 : Int32) then (some (.int (-1 : Int32), w)) else (if a2 ≤ (12 : Int32) then (sm_cI (ff_ho_refusalOfWords (a1) ((5 : Int32)) w) fun x1 w2 => (if x1 = (0 : Int32) then (Option.bind (sm_rr 1 a1) fun r3 => (sm_cV (ff_wy_runWords (r3) ((-9 : Int32)) w2) fun w5 => (sm_cL (ff_wy_weightOfWords (a2) w5) fun x6 w7 => (sm_cL (ff_wy_weightOfAny  w7) fun x8 w9 => (sm_cV (ff_td_share (x6) (x8) w9) fun w11 => (some (.int (1 : Int32), w11))))))) else (some (.int x1, w2)))) else (some (.int (-1 : Int32), w))))
set_option maxHeartbeats 4000000 in
set_option maxRecDepth 100000 in
theorem ss_ho_mid_0 {E : Nat × (Nat → Int32)}  (a1 : Int32) (a2 : Int32) (w : sm_Mem) : sm_Sim E (mi_ho_mid) 0 [some (.ref 0), some (.int a1), some (.int a2), none] [] w (ff_ho_mid  a1 a2 w) := by
  unfold ff_ho_mid
  refine sm_iload_n ii_ho_mid_0 rfl ?_
  refine sm_if_lt 10 ii_ho_mid_1 (by decide) ?_ ?_
  · refine sm_iconst (-1 : Int32) ii_ho_mid_10 (by decide) ?_
    exact sm_iret ii_ho_mid_11 rfl
  · refine sm_iload_n ii_ho_mid_4 rfl ?_
    refine sm_bipush (12 : Int32) ii_ho_mid_5 (by decide) ?_
    refine sm_icmp_le 12 ii_ho_mid_7 (by decide) ?_ ?_
    · refine sm_aload_n ii_ho_mid_12 rfl ?_
      refine sm_iload_n ii_ho_mid_13 rfl ?_
      refine sm_iconst (5 : Int32) ii_ho_mid_14 (by decide) ?_
      refine sm_cvI [.int a1, .int (5 : Int32)] [] rfl ii_ho_mid_15 ml_ho_192 (mf_ho_refusalOfWords) (mv_ho_refusalOfWords) (Nat.le_of_ble_eq_true rfl) rfl 6 rfl rfl rfl rfl (mc_ho_refusalOfWords (a1) ((5 : Int32)) w) (fun x1 w2 => ?_)
      refine sm_istore_n [some (.ref 0), some (.int a1), some (.int a2), some (.int x1)] ii_ho_mid_18 rfl rfl ?_
      refine sm_iload_n ii_ho_mid_19 rfl ?_
      refine sm_if_eq 25 ii_ho_mid_20 (by decide) ?_ ?_
      · refine sm_aload_n ii_ho_mid_25 rfl ?_
        refine sm_getR 49 ii_ho_mid_26 fl_ho_40 (k := 0) rfl ?_
        refine sm_aload_n ii_ho_mid_29 rfl ?_
        refine sm_getR 1 ii_ho_mid_30 fl_ho_11 (k := 0) rfl ?_
        refine sm_iload_n ii_ho_mid_33 rfl ?_
        refine sm_aald ii_ho_mid_34 (fun r3 => ?_)
        refine sm_bipush (-9 : Int32) ii_ho_mid_35 (by decide) ?_
        refine sm_cvV [.ref r3, .int (-9 : Int32)] [] rfl ii_ho_mid_37 ml_ho_195 (mf_wy_runWords) (mv_wy_runWords) (Nat.le_of_ble_eq_true rfl) rfl 5 rfl rfl rfl rfl (mc_wy_runWords (r3) ((-9 : Int32)) w2) (fun w5 => ?_)
        refine sm_aload_n ii_ho_mid_40 rfl ?_
        refine sm_getR 60 ii_ho_mid_41 fl_ho_54 (k := 0) rfl ?_
        refine sm_aload_n ii_ho_mid_44 rfl ?_
        refine sm_getR 49 ii_ho_mid_45 fl_ho_40 (k := 0) rfl ?_
        refine sm_iload_n ii_ho_mid_48 rfl ?_
        refine sm_cvL [.int a2] [.ref 60] rfl ii_ho_mid_49 ml_ho_289 (mf_wy_weightOfWords) (mv_wy_weightOfWords) (Nat.le_of_ble_eq_true rfl) rfl 5 rfl rfl rfl rfl (mc_wy_weightOfWords (a2) w5) (fun x6 w7 => ?_)
        refine sm_aload_n ii_ho_mid_52 rfl ?_
        refine sm_getR 49 ii_ho_mid_53 fl_ho_40 (k := 0) rfl ?_
        refine sm_cvL [] [.long x6, .ref 60] rfl ii_ho_mid_56 ml_ho_286 (mf_wy_weightOfAny) (mv_wy_weightOfAny) (Nat.le_of_ble_eq_true rfl) rfl 5 rfl rfl rfl rfl (mc_wy_weightOfAny  w7) (fun x8 w9 => ?_)
        refine sm_cvV [.long x6, .long x8] [] rfl ii_ho_mid_59 ml_ho_203 (mf_td_share) (mv_td_share) (Nat.le_of_ble_eq_true rfl) rfl 3 rfl rfl rfl rfl (mc_td_share (x6) (x8) w9) (fun w11 => ?_)
        refine sm_iconst (1 : Int32) ii_ho_mid_62 (by decide) ?_
        exact sm_iret ii_ho_mid_63 rfl
      · refine sm_iload_n ii_ho_mid_23 rfl ?_
        exact sm_iret ii_ho_mid_24 rfl
    · refine sm_iconst (-1 : Int32) ii_ho_mid_10 (by decide) ?_
      exact sm_iret ii_ho_mid_11 rfl
set_option maxHeartbeats 4000000 in
set_option maxRecDepth 100000 in
theorem mc_ho_mid (a1 : Int32) (a2 : Int32) (w : sm_Mem) : sm_MC mi_ho_mid [.ref 0, .int a1, .int a2] w (ff_ho_mid a1 a2 w) := sm_MC_of (0, fun _ => 0) (by decide +kernel) (by decide) rfl (Nat.le_of_ble_eq_true rfl) (ss_ho_mid_0 a1 a2 w)
abbrev mi_mo_mid : sm_MI := (⟨"HerOrdersModel", "mid", "(II)I"⟩, prog_9_method_94_code, 3, (some .int), 9)
set_option maxRecDepth 100000 in
theorem mf_mo_mid : sm_MF mi_mo_mid 2 := ⟨List.mem_of_getElem? (i := 1395) (by decide +kernel), List.mem_of_getElem? (i := 132) (by decide +kernel), ⟨by decide, by decide⟩, by decide +kernel⟩
set_option maxRecDepth 100000 in
theorem mv_mo_mid : sm_MFV mi_mo_mid := ⟨List.mem_of_getElem? (i := 1393) (by decide +kernel), List.mem_of_getElem? (i := 1394) (by decide +kernel)⟩
set_option maxRecDepth 100000 in
theorem ii_mo_mid_0 : sm_D prog_9_method_94_code 0 1 1 (.iload_n 1) := ⟨by decide +kernel, rfl⟩
set_option maxRecDepth 100000 in
theorem ii_mo_mid_1 : sm_D prog_9_method_94_code 1 3 4 (.invokestatic 77) := ⟨by decide +kernel, rfl⟩
set_option maxRecDepth 100000 in
theorem ii_mo_mid_4 : sm_D prog_9_method_94_code 4 3 7 (.ifCond .eq 25) := ⟨by decide +kernel, rfl⟩
set_option maxRecDepth 100000 in
theorem ii_mo_mid_7 : sm_D prog_9_method_94_code 7 1 8 (.iload_n 2) := ⟨by decide +kernel, rfl⟩
set_option maxRecDepth 100000 in
theorem ii_mo_mid_8 : sm_D prog_9_method_94_code 8 1 9 (.i2l) := ⟨by decide +kernel, rfl⟩
set_option maxRecDepth 100000 in
theorem ii_mo_mid_9 : sm_D prog_9_method_94_code 9 1 10 (.lconst 0) := ⟨by decide +kernel, rfl⟩
set_option maxRecDepth 100000 in
theorem ii_mo_mid_10 : sm_D prog_9_method_94_code 10 3 13 (.ldc2_w 288) := ⟨by decide +kernel, rfl⟩
set_option maxRecDepth 100000 in
theorem ii_mo_mid_13 : sm_D prog_9_method_94_code 13 3 16 (.invokestatic 71) := ⟨by decide +kernel, rfl⟩
set_option maxRecDepth 100000 in
theorem ii_mo_mid_16 : sm_D prog_9_method_94_code 16 3 19 (.ifCond .eq 13) := ⟨by decide +kernel, rfl⟩
set_option maxRecDepth 100000 in
theorem ii_mo_mid_19 : sm_D prog_9_method_94_code 19 1 20 (.aload_n 0) := ⟨by decide +kernel, rfl⟩
set_option maxRecDepth 100000 in
theorem ii_mo_mid_20 : sm_D prog_9_method_94_code 20 1 21 (.iload_n 1) := ⟨by decide +kernel, rfl⟩
set_option maxRecDepth 100000 in
theorem ii_mo_mid_21 : sm_D prog_9_method_94_code 21 1 22 (.iload_n 2) := ⟨by decide +kernel, rfl⟩
set_option maxRecDepth 100000 in
theorem ii_mo_mid_22 : sm_D prog_9_method_94_code 22 1 23 (.iconst 0) := ⟨by decide +kernel, rfl⟩
set_option maxRecDepth 100000 in
theorem ii_mo_mid_23 : sm_D prog_9_method_94_code 23 3 26 (.invokevirtual 290) := ⟨by decide +kernel, rfl⟩
set_option maxRecDepth 100000 in
theorem ii_mo_mid_26 : sm_D prog_9_method_94_code 26 3 29 (.goto 4) := ⟨by decide +kernel, rfl⟩
set_option maxRecDepth 100000 in
theorem ii_mo_mid_29 : sm_D prog_9_method_94_code 29 1 30 (.iconst (-1)) := ⟨by decide +kernel, rfl⟩
set_option maxRecDepth 100000 in
theorem ii_mo_mid_30 : sm_D prog_9_method_94_code 30 1 31 (.ireturn) := ⟨by decide +kernel, rfl⟩
noncomputable def ff_mo_mid  (a1 : Int32) (a2 : Int32) (w : sm_Mem) : sm_R := (sm_cI (ff_mo_isRow (a1) w) fun x1 w2 => (if x1 = (0 : Int32) then (some (.int (-1 : Int32), w2)) else (sm_cI (ff_mo_in ((Int32.toInt64 a2)) ((0 : Int64)) ((12 : Int64)) w2) fun x3 w4 => (if x3 = (0 : Int32) then (some (.int (-1 : Int32), w4)) else (sm_cI (ff_mo_tellSilent (a1) (a2) ((0 : Int32)) w4) fun x5 w6 => (some (.int x5, w6)))))))
set_option maxHeartbeats 4000000 in
set_option maxRecDepth 100000 in
theorem ss_mo_mid_0 {E : Nat × (Nat → Int32)}  (a1 : Int32) (a2 : Int32) (w : sm_Mem) : sm_Sim E (mi_mo_mid) 0 [some (.ref 62), some (.int a1), some (.int a2)] [] w (ff_mo_mid  a1 a2 w) := by
  unfold ff_mo_mid
  refine sm_iload_n ii_mo_mid_0 rfl ?_
  refine sm_csI [.int a1] [] rfl ii_mo_mid_1 ml_mo_77 (mf_mo_isRow) (mv_mo_isRow) (Nat.le_of_ble_eq_true rfl) rfl rfl rfl (mc_mo_isRow (a1) w) (fun x1 w2 => ?_)
  refine sm_if_eq 29 ii_mo_mid_4 (by decide) ?_ ?_
  · refine sm_iconst (-1 : Int32) ii_mo_mid_29 (by decide) ?_
    exact sm_iret ii_mo_mid_30 rfl
  · refine sm_iload_n ii_mo_mid_7 rfl ?_
    refine sm_i2l ii_mo_mid_8 ?_
    refine sm_lconst (0 : Int64) ii_mo_mid_9 (by decide) ?_
    refine sm_ldc2 (12 : Int64) ii_mo_mid_10 (List.mem_of_getElem? (i := 1383) (by decide +kernel)) ?_
    refine sm_csI [.long (Int32.toInt64 a2), .long (0 : Int64), .long (12 : Int64)] [] rfl ii_mo_mid_13 ml_mo_71 (mf_mo_in) (mv_mo_in) (Nat.le_of_ble_eq_true rfl) rfl rfl rfl (mc_mo_in ((Int32.toInt64 a2)) ((0 : Int64)) ((12 : Int64)) w2) (fun x3 w4 => ?_)
    refine sm_if_eq 29 ii_mo_mid_16 (by decide) ?_ ?_
    · refine sm_iconst (-1 : Int32) ii_mo_mid_29 (by decide) ?_
      exact sm_iret ii_mo_mid_30 rfl
    · refine sm_aload_n ii_mo_mid_19 rfl ?_
      refine sm_iload_n ii_mo_mid_20 rfl ?_
      refine sm_iload_n ii_mo_mid_21 rfl ?_
      refine sm_iconst (0 : Int32) ii_mo_mid_22 (by decide) ?_
      refine sm_cvI [.int a1, .int a2, .int (0 : Int32)] [] rfl ii_mo_mid_23 ml_mo_290 (mf_mo_tellSilent) (mv_mo_tellSilent) (Nat.le_of_ble_eq_true rfl) rfl 7 rfl rfl rfl rfl (mc_mo_tellSilent (a1) (a2) ((0 : Int32)) w4) (fun x5 w6 => ?_)
      refine sm_goto 30 ii_mo_mid_26 (by decide) ?_
      exact sm_iret ii_mo_mid_30 rfl
set_option maxHeartbeats 4000000 in
set_option maxRecDepth 100000 in
theorem mc_mo_mid (a1 : Int32) (a2 : Int32) (w : sm_Mem) : sm_MC mi_mo_mid [.ref 62, .int a1, .int a2] w (ff_mo_mid a1 a2 w) := sm_MC_of (0, fun _ => 0) (by decide +kernel) (by decide) rfl (Nat.le_of_ble_eq_true rfl) (ss_mo_mid_0 a1 a2 w)
abbrev mi_hs_enactLot : sm_MI := (⟨"HerOrders$House", "enactLot", "(J)V"⟩, prog_3_method_6_code, 5, none, 4)
set_option maxRecDepth 100000 in
theorem mf_hs_enactLot : sm_MF mi_hs_enactLot 1 := ⟨List.mem_of_getElem? (i := 865) (by decide +kernel), List.mem_of_getElem? (i := 128) (by decide +kernel), ⟨by decide, by decide⟩, by decide +kernel⟩
set_option maxRecDepth 100000 in
theorem mv_hs_enactLot : sm_MFV mi_hs_enactLot := ⟨List.mem_of_getElem? (i := 864) (by decide +kernel), List.mem_of_getElem? (i := 65) (by decide +kernel)⟩
set_option maxRecDepth 100000 in
theorem ii_hs_enactLot_0 : sm_D prog_3_method_6_code 0 1 1 (.aload_n 0) := ⟨by decide +kernel, rfl⟩
set_option maxRecDepth 100000 in
theorem ii_hs_enactLot_1 : sm_D prog_3_method_6_code 1 3 4 (.getfield 45) := ⟨by decide +kernel, rfl⟩
set_option maxRecDepth 100000 in
theorem ii_hs_enactLot_4 : sm_D prog_3_method_6_code 4 3 7 (.ifCond .gt 4) := ⟨by decide +kernel, rfl⟩
set_option maxRecDepth 100000 in
theorem ii_hs_enactLot_7 : sm_D prog_3_method_6_code 7 1 8 (.return_) := ⟨by decide +kernel, rfl⟩
set_option maxRecDepth 100000 in
theorem ii_hs_enactLot_8 : sm_D prog_3_method_6_code 8 1 9 (.lload_n 1) := ⟨by decide +kernel, rfl⟩
set_option maxRecDepth 100000 in
theorem ii_hs_enactLot_9 : sm_D prog_3_method_6_code 9 3 12 (.ldc2_w 76) := ⟨by decide +kernel, rfl⟩
set_option maxRecDepth 100000 in
theorem ii_hs_enactLot_12 : sm_D prog_3_method_6_code 12 1 13 (.ldiv) := ⟨by decide +kernel, rfl⟩
set_option maxRecDepth 100000 in
theorem ii_hs_enactLot_13 : sm_D prog_3_method_6_code 13 1 14 (.aload_n 0) := ⟨by decide +kernel, rfl⟩
set_option maxRecDepth 100000 in
theorem ii_hs_enactLot_14 : sm_D prog_3_method_6_code 14 3 17 (.getfield 45) := ⟨by decide +kernel, rfl⟩
set_option maxRecDepth 100000 in
theorem ii_hs_enactLot_17 : sm_D prog_3_method_6_code 17 1 18 (.i2l) := ⟨by decide +kernel, rfl⟩
set_option maxRecDepth 100000 in
theorem ii_hs_enactLot_18 : sm_D prog_3_method_6_code 18 1 19 (.lrem) := ⟨by decide +kernel, rfl⟩
set_option maxRecDepth 100000 in
theorem ii_hs_enactLot_19 : sm_D prog_3_method_6_code 19 1 20 (.l2i) := ⟨by decide +kernel, rfl⟩
set_option maxRecDepth 100000 in
theorem ii_hs_enactLot_20 : sm_D prog_3_method_6_code 20 1 21 (.istore_n 3) := ⟨by decide +kernel, rfl⟩
set_option maxRecDepth 100000 in
theorem ii_hs_enactLot_21 : sm_D prog_3_method_6_code 21 1 22 (.lload_n 1) := ⟨by decide +kernel, rfl⟩
set_option maxRecDepth 100000 in
theorem ii_hs_enactLot_22 : sm_D prog_3_method_6_code 22 3 25 (.ldc2_w 78) := ⟨by decide +kernel, rfl⟩
set_option maxRecDepth 100000 in
theorem ii_hs_enactLot_25 : sm_D prog_3_method_6_code 25 1 26 (.ldiv) := ⟨by decide +kernel, rfl⟩
set_option maxRecDepth 100000 in
theorem ii_hs_enactLot_26 : sm_D prog_3_method_6_code 26 3 29 (.ldc2_w 80) := ⟨by decide +kernel, rfl⟩
set_option maxRecDepth 100000 in
theorem ii_hs_enactLot_29 : sm_D prog_3_method_6_code 29 1 30 (.lrem) := ⟨by decide +kernel, rfl⟩
set_option maxRecDepth 100000 in
theorem ii_hs_enactLot_30 : sm_D prog_3_method_6_code 30 1 31 (.l2i) := ⟨by decide +kernel, rfl⟩
set_option maxRecDepth 100000 in
theorem ii_hs_enactLot_31 : sm_D prog_3_method_6_code 31 2 33 (.istore 4) := ⟨by decide +kernel, rfl⟩
set_option maxRecDepth 100000 in
theorem ii_hs_enactLot_33 : sm_D prog_3_method_6_code 33 1 34 (.aload_n 0) := ⟨by decide +kernel, rfl⟩
set_option maxRecDepth 100000 in
theorem ii_hs_enactLot_34 : sm_D prog_3_method_6_code 34 1 35 (.iload_n 3) := ⟨by decide +kernel, rfl⟩
set_option maxRecDepth 100000 in
theorem ii_hs_enactLot_35 : sm_D prog_3_method_6_code 35 2 37 (.iload 4) := ⟨by decide +kernel, rfl⟩
set_option maxRecDepth 100000 in
theorem ii_hs_enactLot_37 : sm_D prog_3_method_6_code 37 3 40 (.invokevirtual 82) := ⟨by decide +kernel, rfl⟩
set_option maxRecDepth 100000 in
theorem ii_hs_enactLot_40 : sm_D prog_3_method_6_code 40 3 43 (.ifCond .eq 14) := ⟨by decide +kernel, rfl⟩
set_option maxRecDepth 100000 in
theorem ii_hs_enactLot_43 : sm_D prog_3_method_6_code 43 1 44 (.aload_n 0) := ⟨by decide +kernel, rfl⟩
set_option maxRecDepth 100000 in
theorem ii_hs_enactLot_44 : sm_D prog_3_method_6_code 44 1 45 (.iconst 0) := ⟨by decide +kernel, rfl⟩
set_option maxRecDepth 100000 in
theorem ii_hs_enactLot_45 : sm_D prog_3_method_6_code 45 1 46 (.iload_n 3) := ⟨by decide +kernel, rfl⟩
set_option maxRecDepth 100000 in
theorem ii_hs_enactLot_46 : sm_D prog_3_method_6_code 46 2 48 (.iload 4) := ⟨by decide +kernel, rfl⟩
set_option maxRecDepth 100000 in
theorem ii_hs_enactLot_48 : sm_D prog_3_method_6_code 48 3 51 (.invokevirtual 86) := ⟨by decide +kernel, rfl⟩
set_option maxRecDepth 100000 in
theorem ii_hs_enactLot_51 : sm_D prog_3_method_6_code 51 3 54 (.goto 28) := ⟨by decide +kernel, rfl⟩
set_option maxRecDepth 100000 in
theorem ii_hs_enactLot_54 : sm_D prog_3_method_6_code 54 1 55 (.aload_n 0) := ⟨by decide +kernel, rfl⟩
set_option maxRecDepth 100000 in
theorem ii_hs_enactLot_55 : sm_D prog_3_method_6_code 55 3 58 (.getfield 89) := ⟨by decide +kernel, rfl⟩
set_option maxRecDepth 100000 in
theorem ii_hs_enactLot_58 : sm_D prog_3_method_6_code 58 1 59 (.iconst 4) := ⟨by decide +kernel, rfl⟩
set_option maxRecDepth 100000 in
theorem ii_hs_enactLot_59 : sm_D prog_3_method_6_code 59 3 62 (.if_icmp .lt 13) := ⟨by decide +kernel, rfl⟩
set_option maxRecDepth 100000 in
theorem ii_hs_enactLot_62 : sm_D prog_3_method_6_code 62 1 63 (.aload_n 0) := ⟨by decide +kernel, rfl⟩
set_option maxRecDepth 100000 in
theorem ii_hs_enactLot_63 : sm_D prog_3_method_6_code 63 1 64 (.iconst 1) := ⟨by decide +kernel, rfl⟩
set_option maxRecDepth 100000 in
theorem ii_hs_enactLot_64 : sm_D prog_3_method_6_code 64 1 65 (.iconst 0) := ⟨by decide +kernel, rfl⟩
set_option maxRecDepth 100000 in
theorem ii_hs_enactLot_65 : sm_D prog_3_method_6_code 65 1 66 (.iconst 0) := ⟨by decide +kernel, rfl⟩
set_option maxRecDepth 100000 in
theorem ii_hs_enactLot_66 : sm_D prog_3_method_6_code 66 3 69 (.invokevirtual 86) := ⟨by decide +kernel, rfl⟩
set_option maxRecDepth 100000 in
theorem ii_hs_enactLot_69 : sm_D prog_3_method_6_code 69 3 72 (.goto 10) := ⟨by decide +kernel, rfl⟩
set_option maxRecDepth 100000 in
theorem ii_hs_enactLot_72 : sm_D prog_3_method_6_code 72 1 73 (.aload_n 0) := ⟨by decide +kernel, rfl⟩
set_option maxRecDepth 100000 in
theorem ii_hs_enactLot_73 : sm_D prog_3_method_6_code 73 1 74 (.iconst 2) := ⟨by decide +kernel, rfl⟩
set_option maxRecDepth 100000 in
theorem ii_hs_enactLot_74 : sm_D prog_3_method_6_code 74 1 75 (.iconst 0) := ⟨by decide +kernel, rfl⟩
set_option maxRecDepth 100000 in
theorem ii_hs_enactLot_75 : sm_D prog_3_method_6_code 75 1 76 (.iconst 0) := ⟨by decide +kernel, rfl⟩
set_option maxRecDepth 100000 in
theorem ii_hs_enactLot_76 : sm_D prog_3_method_6_code 76 3 79 (.invokevirtual 86) := ⟨by decide +kernel, rfl⟩
set_option maxRecDepth 100000 in
theorem ii_hs_enactLot_79 : sm_D prog_3_method_6_code 79 1 80 (.return_) := ⟨by decide +kernel, rfl⟩
noncomputable def ff_hs_enactLot  (a1 : Int64) (w : sm_Mem) : sm_R := (if (0 : Int32) < (w.1 36 0) then (if (8 : Int64) = (0 : Int64) then none else (if (Int32.toInt64 (w.1 36 0)) = (0 : Int64) then none else (if (64 : Int64) = (0 : Int64) then none else (if (6 : Int64) = (0 : Int64) then none else (sm_cI (ff_hs_can ((Int64.toInt32 ((a1 / (8 : Int64)) - (a1 / (8 : Int64)) / (Int32.toInt64 (w.1 36 0)) * (Int32.toInt64 (w.1 36 0))))) ((Int64.toInt32 ((a1 / (64 : Int64)) - (a1 / (64 : Int64)) / (6 : Int64) * (6 : Int64)))) w) fun x5 w6 => (if x5 = (0 : Int32) then (if (w6.1 36 11) < (4 : Int32) then (sm_cV (ff_hs_enact ((2 : Int32)) ((0 : Int32)) ((0 : Int32)) w6) fun w8 => (some (.null, w8))) else (sm_cV (ff_hs_enact ((1 : Int32)) ((0 : Int32)) ((0 : Int32)) w6) fun w10 => (some (.null, w10)))) else (sm_cV (ff_hs_enact ((0 : Int32)) ((Int64.toInt32 ((a1 / (8 : Int64)) - (a1 / (8 : Int64)) / (Int32.toInt64 (w.1 36 0)) * (Int32.toInt64 (w.1 36 0))))) ((Int64.toInt32 ((a1 / (64 : Int64)) - (a1 / (64 : Int64)) / (6 : Int64) * (6 : Int64)))) w6) fun w12 => (some (.null, w12))))))))) else (some (.null, w)))
set_option maxHeartbeats 4000000 in
set_option maxRecDepth 100000 in
theorem ss_hs_enactLot_0 {E : Nat × (Nat → Int32)}  (a1 : Int64) (w : sm_Mem) : sm_Sim E (mi_hs_enactLot) 0 [some (.ref 36), some (.long a1), none, none, none] [] w (ff_hs_enactLot  a1 w) := by
  unfold ff_hs_enactLot
  refine sm_aload_n ii_hs_enactLot_0 rfl ?_
  refine sm_getI ii_hs_enactLot_1 fl_hs_45 (k := 36) rfl ?_
  refine sm_if_gt 8 ii_hs_enactLot_4 (by decide) ?_ ?_
  · refine sm_lload_n ii_hs_enactLot_8 rfl ?_
    refine sm_ldc2 (8 : Int64) ii_hs_enactLot_9 (List.mem_of_getElem? (i := 866) (by decide +kernel)) ?_
    refine sm_ldiv ii_hs_enactLot_12 ?_
    refine sm_aload_n ii_hs_enactLot_13 rfl ?_
    refine sm_getI ii_hs_enactLot_14 fl_hs_45 (k := 36) rfl ?_
    refine sm_i2l ii_hs_enactLot_17 ?_
    refine sm_lrem ii_hs_enactLot_18 ?_
    refine sm_l2i ii_hs_enactLot_19 ?_
    refine sm_istore_n [some (.ref 36), some (.long a1), none, some (.int (Int64.toInt32 ((a1 / (8 : Int64)) - (a1 / (8 : Int64)) / (Int32.toInt64 (w.1 36 0)) * (Int32.toInt64 (w.1 36 0))))), none] ii_hs_enactLot_20 rfl rfl ?_
    refine sm_lload_n ii_hs_enactLot_21 rfl ?_
    refine sm_ldc2 (64 : Int64) ii_hs_enactLot_22 (List.mem_of_getElem? (i := 867) (by decide +kernel)) ?_
    refine sm_ldiv ii_hs_enactLot_25 ?_
    refine sm_ldc2 (6 : Int64) ii_hs_enactLot_26 (List.mem_of_getElem? (i := 868) (by decide +kernel)) ?_
    refine sm_lrem ii_hs_enactLot_29 ?_
    refine sm_l2i ii_hs_enactLot_30 ?_
    refine sm_istore [some (.ref 36), some (.long a1), none, some (.int (Int64.toInt32 ((a1 / (8 : Int64)) - (a1 / (8 : Int64)) / (Int32.toInt64 (w.1 36 0)) * (Int32.toInt64 (w.1 36 0))))), some (.int (Int64.toInt32 ((a1 / (64 : Int64)) - (a1 / (64 : Int64)) / (6 : Int64) * (6 : Int64))))] ii_hs_enactLot_31 rfl rfl ?_
    refine sm_aload_n ii_hs_enactLot_33 rfl ?_
    refine sm_iload_n ii_hs_enactLot_34 rfl ?_
    refine sm_iload ii_hs_enactLot_35 rfl ?_
    refine sm_cvI [.int (Int64.toInt32 ((a1 / (8 : Int64)) - (a1 / (8 : Int64)) / (Int32.toInt64 (w.1 36 0)) * (Int32.toInt64 (w.1 36 0)))), .int (Int64.toInt32 ((a1 / (64 : Int64)) - (a1 / (64 : Int64)) / (6 : Int64) * (6 : Int64)))] [] rfl ii_hs_enactLot_37 ml_hs_82 (mf_hs_can) (mv_hs_can) (Nat.le_of_ble_eq_true rfl) rfl 1 rfl rfl rfl rfl (mc_hs_can ((Int64.toInt32 ((a1 / (8 : Int64)) - (a1 / (8 : Int64)) / (Int32.toInt64 (w.1 36 0)) * (Int32.toInt64 (w.1 36 0))))) ((Int64.toInt32 ((a1 / (64 : Int64)) - (a1 / (64 : Int64)) / (6 : Int64) * (6 : Int64)))) w) (fun x5 w6 => ?_)
    refine sm_if_eq 54 ii_hs_enactLot_40 (by decide) ?_ ?_
    · refine sm_aload_n ii_hs_enactLot_54 rfl ?_
      refine sm_getI ii_hs_enactLot_55 fl_hs_89 (k := 36) rfl ?_
      refine sm_iconst (4 : Int32) ii_hs_enactLot_58 (by decide) ?_
      refine sm_icmp_lt 72 ii_hs_enactLot_59 (by decide) ?_ ?_
      · refine sm_aload_n ii_hs_enactLot_72 rfl ?_
        refine sm_iconst (2 : Int32) ii_hs_enactLot_73 (by decide) ?_
        refine sm_iconst (0 : Int32) ii_hs_enactLot_74 (by decide) ?_
        refine sm_iconst (0 : Int32) ii_hs_enactLot_75 (by decide) ?_
        refine sm_cvV [.int (2 : Int32), .int (0 : Int32), .int (0 : Int32)] [] rfl ii_hs_enactLot_76 ml_hs_86 (mf_hs_enact) (mv_hs_enact) (Nat.le_of_ble_eq_true rfl) rfl 1 rfl rfl rfl rfl (mc_hs_enact ((2 : Int32)) ((0 : Int32)) ((0 : Int32)) w6) (fun w8 => ?_)
        exact sm_vret ii_hs_enactLot_79 rfl
      · refine sm_aload_n ii_hs_enactLot_62 rfl ?_
        refine sm_iconst (1 : Int32) ii_hs_enactLot_63 (by decide) ?_
        refine sm_iconst (0 : Int32) ii_hs_enactLot_64 (by decide) ?_
        refine sm_iconst (0 : Int32) ii_hs_enactLot_65 (by decide) ?_
        refine sm_cvV [.int (1 : Int32), .int (0 : Int32), .int (0 : Int32)] [] rfl ii_hs_enactLot_66 ml_hs_86 (mf_hs_enact) (mv_hs_enact) (Nat.le_of_ble_eq_true rfl) rfl 1 rfl rfl rfl rfl (mc_hs_enact ((1 : Int32)) ((0 : Int32)) ((0 : Int32)) w6) (fun w10 => ?_)
        refine sm_goto 79 ii_hs_enactLot_69 (by decide) ?_
        exact sm_vret ii_hs_enactLot_79 rfl
    · refine sm_aload_n ii_hs_enactLot_43 rfl ?_
      refine sm_iconst (0 : Int32) ii_hs_enactLot_44 (by decide) ?_
      refine sm_iload_n ii_hs_enactLot_45 rfl ?_
      refine sm_iload ii_hs_enactLot_46 rfl ?_
      refine sm_cvV [.int (0 : Int32), .int (Int64.toInt32 ((a1 / (8 : Int64)) - (a1 / (8 : Int64)) / (Int32.toInt64 (w.1 36 0)) * (Int32.toInt64 (w.1 36 0)))), .int (Int64.toInt32 ((a1 / (64 : Int64)) - (a1 / (64 : Int64)) / (6 : Int64) * (6 : Int64)))] [] rfl ii_hs_enactLot_48 ml_hs_86 (mf_hs_enact) (mv_hs_enact) (Nat.le_of_ble_eq_true rfl) rfl 1 rfl rfl rfl rfl (mc_hs_enact ((0 : Int32)) ((Int64.toInt32 ((a1 / (8 : Int64)) - (a1 / (8 : Int64)) / (Int32.toInt64 (w.1 36 0)) * (Int32.toInt64 (w.1 36 0))))) ((Int64.toInt32 ((a1 / (64 : Int64)) - (a1 / (64 : Int64)) / (6 : Int64) * (6 : Int64)))) w6) (fun w12 => ?_)
      refine sm_goto 79 ii_hs_enactLot_51 (by decide) ?_
      exact sm_vret ii_hs_enactLot_79 rfl
  · exact sm_vret ii_hs_enactLot_7 rfl
set_option maxHeartbeats 4000000 in
set_option maxRecDepth 100000 in
theorem mc_hs_enactLot (a1 : Int64) (w : sm_Mem) : sm_MC mi_hs_enactLot [.ref 36, .long a1] w (ff_hs_enactLot a1 w) := sm_MC_of (0, fun _ => 0) (by decide +kernel) (by decide) rfl (Nat.le_of_ble_eq_true rfl) (ss_hs_enactLot_0 a1 w)
abbrev mi_ho_lots : sm_MI := (⟨"HerOrders", "lots", "(II)I"⟩, prog_1_method_38_code, 6, (some .int), 5)
set_option maxRecDepth 100000 in
theorem mf_ho_lots : sm_MF mi_ho_lots 2 := ⟨List.mem_of_getElem? (i := 859) (by decide +kernel), List.mem_of_getElem? (i := 124) (by decide +kernel), ⟨by decide, by decide⟩, by decide +kernel⟩
set_option maxRecDepth 100000 in
theorem mv_ho_lots : sm_MFV mi_ho_lots := ⟨List.mem_of_getElem? (i := 857) (by decide +kernel), List.mem_of_getElem? (i := 858) (by decide +kernel)⟩
set_option maxRecDepth 100000 in
theorem ii_ho_lots_0 : sm_D prog_1_method_38_code 0 1 1 (.iload_n 1) := ⟨by decide +kernel, rfl⟩
set_option maxRecDepth 100000 in
theorem ii_ho_lots_1 : sm_D prog_1_method_38_code 1 1 2 (.iconst 1) := ⟨by decide +kernel, rfl⟩
set_option maxRecDepth 100000 in
theorem ii_ho_lots_2 : sm_D prog_1_method_38_code 2 3 5 (.if_icmp .lt 23) := ⟨by decide +kernel, rfl⟩
set_option maxRecDepth 100000 in
theorem ii_ho_lots_5 : sm_D prog_1_method_38_code 5 1 6 (.iload_n 1) := ⟨by decide +kernel, rfl⟩
set_option maxRecDepth 100000 in
theorem ii_ho_lots_6 : sm_D prog_1_method_38_code 6 2 8 (.bipush 20) := ⟨by decide +kernel, rfl⟩
set_option maxRecDepth 100000 in
theorem ii_ho_lots_8 : sm_D prog_1_method_38_code 8 3 11 (.if_icmp .gt 17) := ⟨by decide +kernel, rfl⟩
set_option maxRecDepth 100000 in
theorem ii_ho_lots_11 : sm_D prog_1_method_38_code 11 1 12 (.iload_n 2) := ⟨by decide +kernel, rfl⟩
set_option maxRecDepth 100000 in
theorem ii_ho_lots_12 : sm_D prog_1_method_38_code 12 1 13 (.iconst 1) := ⟨by decide +kernel, rfl⟩
set_option maxRecDepth 100000 in
theorem ii_ho_lots_13 : sm_D prog_1_method_38_code 13 3 16 (.if_icmp .lt 12) := ⟨by decide +kernel, rfl⟩
set_option maxRecDepth 100000 in
theorem ii_ho_lots_16 : sm_D prog_1_method_38_code 16 1 17 (.iload_n 2) := ⟨by decide +kernel, rfl⟩
set_option maxRecDepth 100000 in
theorem ii_ho_lots_17 : sm_D prog_1_method_38_code 17 1 18 (.i2l) := ⟨by decide +kernel, rfl⟩
set_option maxRecDepth 100000 in
theorem ii_ho_lots_18 : sm_D prog_1_method_38_code 18 3 21 (.ldc2_w 292) := ⟨by decide +kernel, rfl⟩
set_option maxRecDepth 100000 in
theorem ii_ho_lots_21 : sm_D prog_1_method_38_code 21 1 22 (.lcmp) := ⟨by decide +kernel, rfl⟩
set_option maxRecDepth 100000 in
theorem ii_ho_lots_22 : sm_D prog_1_method_38_code 22 3 25 (.ifCond .lt 5) := ⟨by decide +kernel, rfl⟩
set_option maxRecDepth 100000 in
theorem ii_ho_lots_25 : sm_D prog_1_method_38_code 25 1 26 (.iconst (-1)) := ⟨by decide +kernel, rfl⟩
set_option maxRecDepth 100000 in
theorem ii_ho_lots_26 : sm_D prog_1_method_38_code 26 1 27 (.ireturn) := ⟨by decide +kernel, rfl⟩
set_option maxRecDepth 100000 in
theorem ii_ho_lots_27 : sm_D prog_1_method_38_code 27 1 28 (.aload_n 0) := ⟨by decide +kernel, rfl⟩
set_option maxRecDepth 100000 in
theorem ii_ho_lots_28 : sm_D prog_1_method_38_code 28 3 31 (.getfield 31) := ⟨by decide +kernel, rfl⟩
set_option maxRecDepth 100000 in
theorem ii_ho_lots_31 : sm_D prog_1_method_38_code 31 3 34 (.getfield 115) := ⟨by decide +kernel, rfl⟩
set_option maxRecDepth 100000 in
theorem ii_ho_lots_34 : sm_D prog_1_method_38_code 34 3 37 (.ifCond .ne 6) := ⟨by decide +kernel, rfl⟩
set_option maxRecDepth 100000 in
theorem ii_ho_lots_37 : sm_D prog_1_method_38_code 37 2 39 (.bipush (-4)) := ⟨by decide +kernel, rfl⟩
set_option maxRecDepth 100000 in
theorem ii_ho_lots_39 : sm_D prog_1_method_38_code 39 1 40 (.ireturn) := ⟨by decide +kernel, rfl⟩
set_option maxRecDepth 100000 in
theorem ii_ho_lots_40 : sm_D prog_1_method_38_code 40 1 41 (.aload_n 0) := ⟨by decide +kernel, rfl⟩
set_option maxRecDepth 100000 in
theorem ii_ho_lots_41 : sm_D prog_1_method_38_code 41 3 44 (.getfield 31) := ⟨by decide +kernel, rfl⟩
set_option maxRecDepth 100000 in
theorem ii_ho_lots_44 : sm_D prog_1_method_38_code 44 3 47 (.getfield 171) := ⟨by decide +kernel, rfl⟩
set_option maxRecDepth 100000 in
theorem ii_ho_lots_47 : sm_D prog_1_method_38_code 47 3 50 (.getfield 114) := ⟨by decide +kernel, rfl⟩
set_option maxRecDepth 100000 in
theorem ii_ho_lots_50 : sm_D prog_1_method_38_code 50 1 51 (.iload_n 1) := ⟨by decide +kernel, rfl⟩
set_option maxRecDepth 100000 in
theorem ii_ho_lots_51 : sm_D prog_1_method_38_code 51 1 52 (.iadd) := ⟨by decide +kernel, rfl⟩
set_option maxRecDepth 100000 in
theorem ii_ho_lots_52 : sm_D prog_1_method_38_code 52 2 54 (.bipush 40) := ⟨by decide +kernel, rfl⟩
set_option maxRecDepth 100000 in
theorem ii_ho_lots_54 : sm_D prog_1_method_38_code 54 3 57 (.if_icmp .le 6) := ⟨by decide +kernel, rfl⟩
set_option maxRecDepth 100000 in
theorem ii_ho_lots_57 : sm_D prog_1_method_38_code 57 2 59 (.bipush (-2)) := ⟨by decide +kernel, rfl⟩
set_option maxRecDepth 100000 in
theorem ii_ho_lots_59 : sm_D prog_1_method_38_code 59 1 60 (.ireturn) := ⟨by decide +kernel, rfl⟩
set_option maxRecDepth 100000 in
theorem ii_ho_lots_60 : sm_D prog_1_method_38_code 60 1 61 (.iload_n 2) := ⟨by decide +kernel, rfl⟩
set_option maxRecDepth 100000 in
theorem ii_ho_lots_61 : sm_D prog_1_method_38_code 61 1 62 (.i2l) := ⟨by decide +kernel, rfl⟩
set_option maxRecDepth 100000 in
theorem ii_ho_lots_62 : sm_D prog_1_method_38_code 62 1 63 (.lstore_n 3) := ⟨by decide +kernel, rfl⟩
set_option maxRecDepth 100000 in
theorem ii_ho_lots_63 : sm_D prog_1_method_38_code 63 1 64 (.iconst 0) := ⟨by decide +kernel, rfl⟩
set_option maxRecDepth 100000 in
theorem ii_ho_lots_64 : sm_D prog_1_method_38_code 64 2 66 (.istore 5) := ⟨by decide +kernel, rfl⟩
set_option maxRecDepth 100000 in
theorem ii_ho_lots_66 : sm_D prog_1_method_38_code 66 2 68 (.iload 5) := ⟨by decide +kernel, rfl⟩
set_option maxRecDepth 100000 in
theorem ii_ho_lots_68 : sm_D prog_1_method_38_code 68 1 69 (.iload_n 1) := ⟨by decide +kernel, rfl⟩
set_option maxRecDepth 100000 in
theorem ii_ho_lots_69 : sm_D prog_1_method_38_code 69 3 72 (.if_icmp .ge 27) := ⟨by decide +kernel, rfl⟩
set_option maxRecDepth 100000 in
theorem ii_ho_lots_72 : sm_D prog_1_method_38_code 72 1 73 (.lload_n 3) := ⟨by decide +kernel, rfl⟩
set_option maxRecDepth 100000 in
theorem ii_ho_lots_73 : sm_D prog_1_method_38_code 73 3 76 (.ldc2_w 294) := ⟨by decide +kernel, rfl⟩
set_option maxRecDepth 100000 in
theorem ii_ho_lots_76 : sm_D prog_1_method_38_code 76 1 77 (.lmul) := ⟨by decide +kernel, rfl⟩
set_option maxRecDepth 100000 in
theorem ii_ho_lots_77 : sm_D prog_1_method_38_code 77 3 80 (.ldc2_w 292) := ⟨by decide +kernel, rfl⟩
set_option maxRecDepth 100000 in
theorem ii_ho_lots_80 : sm_D prog_1_method_38_code 80 1 81 (.lrem) := ⟨by decide +kernel, rfl⟩
set_option maxRecDepth 100000 in
theorem ii_ho_lots_81 : sm_D prog_1_method_38_code 81 1 82 (.lstore_n 3) := ⟨by decide +kernel, rfl⟩
set_option maxRecDepth 100000 in
theorem ii_ho_lots_82 : sm_D prog_1_method_38_code 82 1 83 (.aload_n 0) := ⟨by decide +kernel, rfl⟩
set_option maxRecDepth 100000 in
theorem ii_ho_lots_83 : sm_D prog_1_method_38_code 83 3 86 (.getfield 31) := ⟨by decide +kernel, rfl⟩
set_option maxRecDepth 100000 in
theorem ii_ho_lots_86 : sm_D prog_1_method_38_code 86 1 87 (.lload_n 3) := ⟨by decide +kernel, rfl⟩
set_option maxRecDepth 100000 in
theorem ii_ho_lots_87 : sm_D prog_1_method_38_code 87 3 90 (.invokevirtual 296) := ⟨by decide +kernel, rfl⟩
set_option maxRecDepth 100000 in
theorem ii_ho_lots_90 : sm_D prog_1_method_38_code 90 3 93 (.iinc 5 1) := ⟨by decide +kernel, rfl⟩
set_option maxRecDepth 100000 in
theorem ii_ho_lots_93 : sm_D prog_1_method_38_code 93 3 96 (.goto (-27)) := ⟨by decide +kernel, rfl⟩
set_option maxRecDepth 100000 in
theorem ii_ho_lots_96 : sm_D prog_1_method_38_code 96 1 97 (.aload_n 0) := ⟨by decide +kernel, rfl⟩
set_option maxRecDepth 100000 in
theorem ii_ho_lots_97 : sm_D prog_1_method_38_code 97 3 100 (.getfield 31) := ⟨by decide +kernel, rfl⟩
set_option maxRecDepth 100000 in
theorem ii_ho_lots_100 : sm_D prog_1_method_38_code 100 3 103 (.getfield 162) := ⟨by decide +kernel, rfl⟩
set_option maxRecDepth 100000 in
theorem ii_ho_lots_103 : sm_D prog_1_method_38_code 103 1 104 (.ireturn) := ⟨by decide +kernel, rfl⟩
noncomputable def ff_ho_lots_66_b  (self66 : Int32 → Int64 → Int32 → sm_Mem → sm_R) (a1 : Int32) (a3 : Int64) (a5 : Int32) (w : sm_Mem) : sm_R := (if a1 ≤ a5 then (some (.int (w.1 36 11), w)) else (if (2147483647 : Int64) = (0 : Int64) then none else (sm_cV (ff_hs_enactLot (((a3 * (48271 : Int64)) - (a3 * (48271 : Int64)) / (2147483647 : Int64) * (2147483647 : Int64))) w) fun w3 => self66 (a1) (((a3 * (48271 : Int64)) - (a3 * (48271 : Int64)) / (2147483647 : Int64) * (2147483647 : Int64))) ((a5 + (1 : Int32))) w3)))
noncomputable def ff_ho_lots_66_f  : Nat → Int32 → Int64 → Int32 → sm_Mem → sm_R
  | 0, _, _, _, _ => none
  | n + 1, a1, a3, a5, w => ff_ho_lots_66_b  (ff_ho_lots_66_f  n) a1 a3 a5 w
noncomputable def ff_ho_lots_66  (a1 : Int32) (a3 : Int64) (a5 : Int32) (w : sm_Mem) : sm_R := ff_ho_lots_66_f  sm_N a1 a3 a5 w
set_option maxHeartbeats 4000000 in
set_option maxRecDepth 100000 in
theorem ss_ho_lots_66_b {E : Nat × (Nat → Int32)}  (self66 : Int32 → Int64 → Int32 → sm_Mem → sm_R) (hself66 : ∀ (a1 : Int32) (a3 : Int64) (a5 : Int32) (w : sm_Mem), sm_Sim E (mi_ho_lots) 66 [some (.ref 0), some (.int a1), none, some (.long a3), none, some (.int a5)] [] w (self66 a1 a3 a5 w)) (a1 : Int32) (a3 : Int64) (a5 : Int32) (w : sm_Mem) : sm_Sim E (mi_ho_lots) 66 [some (.ref 0), some (.int a1), none, some (.long a3), none, some (.int a5)] [] w (ff_ho_lots_66_b  self66 a1 a3 a5 w) := by
  unfold ff_ho_lots_66_b
  refine sm_iload ii_ho_lots_66 rfl ?_
  refine sm_iload_n ii_ho_lots_68 rfl ?_
  refine sm_icmp_ge 96 ii_ho_lots_69 (by decide) ?_ ?_
  · refine sm_aload_n ii_ho_lots_96 rfl ?_
    refine sm_getR 36 ii_ho_lots_97 fl_ho_31 (k := 0) rfl ?_
    refine sm_getI ii_ho_lots_100 fl_ho_162 (k := 36) rfl ?_
    exact sm_iret ii_ho_lots_103 rfl
  · refine sm_lload_n ii_ho_lots_72 rfl ?_
    refine sm_ldc2 (48271 : Int64) ii_ho_lots_73 (List.mem_of_getElem? (i := 861) (by decide +kernel)) ?_
    refine sm_lmul ii_ho_lots_76 ?_
    refine sm_ldc2 (2147483647 : Int64) ii_ho_lots_77 (List.mem_of_getElem? (i := 860) (by decide +kernel)) ?_
    refine sm_lrem ii_ho_lots_80 ?_
    refine sm_lstore_n [some (.ref 0), some (.int a1), none, some (.long ((a3 * (48271 : Int64)) - (a3 * (48271 : Int64)) / (2147483647 : Int64) * (2147483647 : Int64))), none, some (.int a5)] ii_ho_lots_81 rfl rfl ?_
    refine sm_aload_n ii_ho_lots_82 rfl ?_
    refine sm_getR 36 ii_ho_lots_83 fl_ho_31 (k := 0) rfl ?_
    refine sm_lload_n ii_ho_lots_86 rfl ?_
    refine sm_cvV [.long ((a3 * (48271 : Int64)) - (a3 * (48271 : Int64)) / (2147483647 : Int64) * (2147483647 : Int64))] [] rfl ii_ho_lots_87 ml_ho_296 (mf_hs_enactLot) (mv_hs_enactLot) (Nat.le_of_ble_eq_true rfl) rfl 1 rfl rfl rfl rfl (mc_hs_enactLot (((a3 * (48271 : Int64)) - (a3 * (48271 : Int64)) / (2147483647 : Int64) * (2147483647 : Int64))) w) (fun w3 => ?_)
    refine sm_iinc (a5 + (1 : Int32)) [some (.ref 0), some (.int a1), none, some (.long ((a3 * (48271 : Int64)) - (a3 * (48271 : Int64)) / (2147483647 : Int64) * (2147483647 : Int64))), none, some (.int (a5 + (1 : Int32)))] ii_ho_lots_90 rfl rfl rfl rfl ?_
    refine sm_goto 66 ii_ho_lots_93 (by decide) ?_
    exact hself66 (a1) (((a3 * (48271 : Int64)) - (a3 * (48271 : Int64)) / (2147483647 : Int64) * (2147483647 : Int64))) ((a5 + (1 : Int32))) w3
set_option maxHeartbeats 4000000 in
set_option maxRecDepth 100000 in
theorem ss_ho_lots_66_f {E : Nat × (Nat → Int32)}  : ∀ (n : Nat) (a1 : Int32) (a3 : Int64) (a5 : Int32) (w : sm_Mem), sm_Sim E (mi_ho_lots) 66 [some (.ref 0), some (.int a1), none, some (.long a3), none, some (.int a5)] [] w (ff_ho_lots_66_f  n a1 a3 a5 w)
  | 0, _, _, _, _ => fun _ _ h => by cases h
  | n + 1, a1, a3, a5, w => ss_ho_lots_66_b  _ (ss_ho_lots_66_f  n) a1 a3 a5 w
set_option maxHeartbeats 4000000 in
set_option maxRecDepth 100000 in
theorem ss_ho_lots_66 {E : Nat × (Nat → Int32)}  (a1 : Int32) (a3 : Int64) (a5 : Int32) (w : sm_Mem) : sm_Sim E (mi_ho_lots) 66 [some (.ref 0), some (.int a1), none, some (.long a3), none, some (.int a5)] [] w (ff_ho_lots_66  a1 a3 a5 w) := ss_ho_lots_66_f  sm_N a1 a3 a5 w
noncomputable def ff_ho_lots  (a1 : Int32) (a2 : Int32) (w : sm_Mem) : sm_R := (if a1 < (1 : Int32) then (some (.int (-1 : Int32), w)) else (if (20 : Int32) < a1 then (some (.int (-1 : Int32), w)) else (if a2 < (1 : Int32) then (some (.int (-1 : Int32), w)) else (if (lg_cmp (Int32.toInt64 a2) (2147483647 : Int64)) < (0 : Int32) then (if (w.1 36 0) = (0 : Int32) then (some (.int (-4 : Int32), w)) else (if ((w.1 45 3) + a1) ≤ (40 : Int32) then ff_ho_lots_66 (a1) ((Int32.toInt64 a2)) ((0 : Int32)) w else (some (.int (-2 : Int32), w)))) else (some (.int (-1 : Int32), w))))))
set_option maxHeartbeats 4000000 in
set_option maxRecDepth 100000 in
theorem ss_ho_lots_0 {E : Nat × (Nat → Int32)}  (a1 : Int32) (a2 : Int32) (w : sm_Mem) : sm_Sim E (mi_ho_lots) 0 [some (.ref 0), some (.int a1), some (.int a2), none, none, none] [] w (ff_ho_lots  a1 a2 w) := by
  unfold ff_ho_lots
  refine sm_iload_n ii_ho_lots_0 rfl ?_
  refine sm_iconst (1 : Int32) ii_ho_lots_1 (by decide) ?_
  refine sm_icmp_lt 25 ii_ho_lots_2 (by decide) ?_ ?_
  · refine sm_iconst (-1 : Int32) ii_ho_lots_25 (by decide) ?_
    exact sm_iret ii_ho_lots_26 rfl
  · refine sm_iload_n ii_ho_lots_5 rfl ?_
    refine sm_bipush (20 : Int32) ii_ho_lots_6 (by decide) ?_
    refine sm_icmp_gt 25 ii_ho_lots_8 (by decide) ?_ ?_
    · refine sm_iconst (-1 : Int32) ii_ho_lots_25 (by decide) ?_
      exact sm_iret ii_ho_lots_26 rfl
    · refine sm_iload_n ii_ho_lots_11 rfl ?_
      refine sm_iconst (1 : Int32) ii_ho_lots_12 (by decide) ?_
      refine sm_icmp_lt 25 ii_ho_lots_13 (by decide) ?_ ?_
      · refine sm_iconst (-1 : Int32) ii_ho_lots_25 (by decide) ?_
        exact sm_iret ii_ho_lots_26 rfl
      · refine sm_iload_n ii_ho_lots_16 rfl ?_
        refine sm_i2l ii_ho_lots_17 ?_
        refine sm_ldc2 (2147483647 : Int64) ii_ho_lots_18 (List.mem_of_getElem? (i := 860) (by decide +kernel)) ?_
        refine sm_lcmp ii_ho_lots_21 ?_
        refine sm_if_lt 27 ii_ho_lots_22 (by decide) ?_ ?_
        · refine sm_aload_n ii_ho_lots_27 rfl ?_
          refine sm_getR 36 ii_ho_lots_28 fl_ho_31 (k := 0) rfl ?_
          refine sm_getI ii_ho_lots_31 fl_ho_115 (k := 36) rfl ?_
          refine sm_if_ne 40 ii_ho_lots_34 (by decide) ?_ ?_
          · refine sm_bipush (-4 : Int32) ii_ho_lots_37 (by decide) ?_
            exact sm_iret ii_ho_lots_39 rfl
          · refine sm_aload_n ii_ho_lots_40 rfl ?_
            refine sm_getR 36 ii_ho_lots_41 fl_ho_31 (k := 0) rfl ?_
            refine sm_getR 45 ii_ho_lots_44 fl_ho_171 (k := 36) rfl ?_
            refine sm_getI ii_ho_lots_47 fl_ho_114 (k := 45) rfl ?_
            refine sm_iload_n ii_ho_lots_50 rfl ?_
            refine sm_iadd ii_ho_lots_51 ?_
            refine sm_bipush (40 : Int32) ii_ho_lots_52 (by decide) ?_
            refine sm_icmp_le 60 ii_ho_lots_54 (by decide) ?_ ?_
            · refine sm_iload_n ii_ho_lots_60 rfl ?_
              refine sm_i2l ii_ho_lots_61 ?_
              refine sm_lstore_n [some (.ref 0), some (.int a1), some (.int a2), some (.long (Int32.toInt64 a2)), none, none] ii_ho_lots_62 rfl rfl ?_
              refine sm_iconst (0 : Int32) ii_ho_lots_63 (by decide) ?_
              refine sm_istore [some (.ref 0), some (.int a1), some (.int a2), some (.long (Int32.toInt64 a2)), none, some (.int (0 : Int32))] ii_ho_lots_64 rfl rfl ?_
              refine sm_msk [true, true, false, true, false, true] [some (.ref 0), some (.int a1), none, some (.long (Int32.toInt64 a2)), none, some (.int (0 : Int32))] rfl ?_
              exact ss_ho_lots_66 (a1) ((Int32.toInt64 a2)) ((0 : Int32)) w
            · refine sm_bipush (-2 : Int32) ii_ho_lots_57 (by decide) ?_
              exact sm_iret ii_ho_lots_59 rfl
        · refine sm_iconst (-1 : Int32) ii_ho_lots_25 (by decide) ?_
          exact sm_iret ii_ho_lots_26 rfl
set_option maxHeartbeats 4000000 in
set_option maxRecDepth 100000 in
theorem mc_ho_lots (a1 : Int32) (a2 : Int32) (w : sm_Mem) : sm_MC mi_ho_lots [.ref 0, .int a1, .int a2] w (ff_ho_lots a1 a2 w) := sm_MC_of (0, fun _ => 0) (by decide +kernel) (by decide) rfl (Nat.le_of_ble_eq_true rfl) (ss_ho_lots_0 a1 a2 w)
