/-! the constructors, run -/
abbrev sn_z (n : Nat) : sm_AE := .inr (.inl (n, fun _ => 0))
theorem sn_ch {M : sm_MI} {F : Nat → List (Option Value) → List Value → Prop} {b0 : Bool} {pc : Nat} {L : List (Option Value)} {st : List Value} {Wd Wf : List sm_AE} {tk tkf : List Nat} {nc ns nf sf : Nat} (W1 : List sm_AE) (st1 : List Value) (tk1 : List Nat) (nc1 ns1 : Nat) (h1 : Wd = W1) (h2 : st = st1) (h3 : tk = tk1) (h4 : nc = nc1) (h5 : ns = ns1) (k : sm_Cn M F b0 Wf tkf nf sf pc L st1 W1 tk1 nc1 ns1) : sm_Cn M F b0 Wf tkf nf sf pc L st Wd tk nc ns := by
  subst h1
  subst h2
  subst h3
  subst h4
  subst h5
  exact k
def sm_rv (m : Nat) : Value → Bool
  | .ref q => Nat.blt q m
  | _ => true
def sm_rl (m : Nat) : sm_AE → Bool
  | .inl (_, fs) => fs.all (sm_rv m)
  | .inr (.inl _) => true
  | .inr (.inr (_, ids)) => ids.all (fun o => match o with | some q => Nat.blt q m | none => true)
theorem sm_rv_tr {ad ad1 : Nat → Nat} {m : Nat} (h : ∀ i, i < m → ad1 i = ad i) {v : Value} (hv : sm_rv m v = true) : sm_tr ad1 v = sm_tr ad v := by
  cases v with
  | ref q => exact congrArg Value.ref (h q (Nat.le_of_ble_eq_true hv))
  | _ => rfl
theorem sm_rl_cell {ad ad1 : Nat → Nat} {ca : Nat → ClassId} {m : Nat} (h : ∀ i, i < m → ad1 i = ad i) {x : sm_AE} (hx : sm_rl m x = true) : sm_dcell ad1 ca x = sm_dcell ad ca x := by
  rcases x with ⟨ci, fs⟩ | ⟨n, f⟩ | ⟨t, ids⟩
  · have e : fs.map (sm_tr ad1) = fs.map (sm_tr ad) := List.map_congr_left (fun v hv => sm_rv_tr h (List.all_eq_true.mp hx v hv))
    simp only [sm_dcell, e]
  · rfl
  · have e : (fun (j : Nat) => ((ids[j]?).getD none).map ad1) = (fun (j : Nat) => ((ids[j]?).getD none).map ad) := by
      funext j
      cases hj : ids[j]? with
      | none => rfl
      | some o =>
        cases o with
        | none => rfl
        | some q =>
          have h1 := List.all_eq_true.mp hx (some q) (List.mem_of_getElem? hj)
          simp only [Option.getD_some, Option.map_some]
          exact congrArg some (h q (Nat.le_of_ble_eq_true h1))
    simp only [sm_dcell, e]
theorem sm_rl_from {ad ad1 : Nat → Nat} {ca : Nat → ClassId} {m : Nat} (h : ∀ i, i < m → ad1 i = ad i) : ∀ {W : List sm_AE} {k : Nat}, W.all (sm_rl m) = true → k + W.length ≤ m → sm_dfrom ad1 ca k W = sm_dfrom ad ca k W
  | [], k, _, _ => rfl
  | y :: W, k, hW, hk => by
    rw [List.all_cons, Bool.and_eq_true] at hW
    rw [List.length_cons] at hk
    rw [sm_dfrom, sm_dfrom, sm_rl_cell h hW.1, h k (by omega), sm_rl_from h hW.2 (by omega)]
theorem sm_ad3_in {ad adc : Nat → Nat} {m x i : Nat} (h : i < m) : sm_ad3 ad adc 0 m x i = adc i := by
  unfold sm_ad3
  rw [if_pos ⟨Nat.zero_le _, by omega⟩]
  rfl
set_option maxRecDepth 100000 in
theorem cq_cl_la_20 : Cond.classLink "HerOrdersLaw" 20 "HerOrders" ∈ lw_tbl := List.mem_of_getElem? (i := 78) (by decide +kernel)
set_option maxRecDepth 100000 in
theorem cq_in_6 : Cond.instantiable "HerOrders" 7 ∈ lw_tbl := List.mem_of_getElem? (i := 79) (by decide +kernel)
set_option maxRecDepth 100000 in
theorem cq_ini_6 : Cond.initialized "HerOrders" ∈ lw_tbl := List.mem_of_getElem? (i := 69) (by decide +kernel)
abbrev mi_ho_init : sm_MI := (⟨"HerOrders", "<init>", "()V"⟩, prog_1_method_1_code, 2, none, 3)
set_option maxRecDepth 100000 in
theorem mf_ho_init : sm_MF mi_ho_init 0 := ⟨List.mem_of_getElem? (i := 82) (by decide +kernel), List.mem_of_getElem? (i := 69) (by decide +kernel), ⟨by decide, by decide⟩, by decide +kernel⟩
set_option maxRecDepth 100000 in
theorem mh_ho_init : Cond.instanceMethod mi_ho_init.1 ∈ lw_tbl := List.mem_of_getElem? (i := 81) (by decide +kernel)
set_option maxRecDepth 100000 in
theorem cq_ob_ho_1 : Cond.methodLink "HerOrders" 1 Lib.objectInit ∈ lw_tbl := List.mem_of_getElem? (i := 83) (by decide +kernel)
set_option maxRecDepth 100000 in
theorem cq_obi : Cond.instanceMethod Lib.objectInit ∈ lw_tbl := List.mem_of_getElem? (i := 84) (by decide +kernel)
set_option maxRecDepth 100000 in
theorem cq_obc : Cond.code Lib.objectInit ⟨#[0xb1]⟩ 1 none ∈ lw_tbl := List.mem_of_getElem? (i := 85) (by decide +kernel)
set_option maxRecDepth 100000 in
theorem cq_cl_ho_9 : Cond.classLink "HerOrders" 9 "HerOrders$Row" ∈ lw_tbl := List.mem_of_getElem? (i := 86) (by decide +kernel)
set_option maxRecDepth 100000 in
theorem cq_ov_1 : Cond.arrayOver (.object "HerOrders$Row") ∈ lw_tbl := List.mem_of_getElem? (i := 87) (by decide +kernel)
set_option maxRecDepth 100000 in
theorem fc_ho_11 : sm_FC "HerOrders" 11 6 0 true (.array (.object "HerOrders$Row")) := ⟨RX6, TX6, 7, tyX6, rfl, by decide, rfl, by decide, sm_inX6, tyX6_ok, nmX6, rfl, by decide +kernel, List.mem_of_getElem? (i := 302) (by decide +kernel)⟩
set_option maxRecDepth 100000 in
theorem cq_in_2 : Cond.instantiable "HerOrders$Row" 2 ∈ lw_tbl := List.mem_of_getElem? (i := 88) (by decide +kernel)
set_option maxRecDepth 100000 in
theorem cq_ini_2 : Cond.initialized "HerOrders$Row" ∈ lw_tbl := List.mem_of_getElem? (i := 70) (by decide +kernel)
abbrev mi_rw_init : sm_MI := (⟨"HerOrders$Row", "<init>", "(I)V"⟩, prog_4_method_1_code, 2, none, 1)
set_option maxRecDepth 100000 in
theorem mf_rw_init : sm_MF mi_rw_init 1 := ⟨List.mem_of_getElem? (i := 91) (by decide +kernel), List.mem_of_getElem? (i := 70) (by decide +kernel), ⟨by decide, by decide⟩, by decide +kernel⟩
set_option maxRecDepth 100000 in
theorem mh_rw_init : Cond.instanceMethod mi_rw_init.1 ∈ lw_tbl := List.mem_of_getElem? (i := 90) (by decide +kernel)
set_option maxRecDepth 100000 in
theorem cq_ob_rw_3 : Cond.methodLink "HerOrders$Row" 3 Lib.objectInit ∈ lw_tbl := List.mem_of_getElem? (i := 92) (by decide +kernel)
set_option maxRecDepth 100000 in
theorem cq_rw_9 : Cond.methodLink "HerOrders$Row" 9 Lib.Math.max.name ∈ lw_tbl := List.mem_of_getElem? (i := 93) (by decide +kernel)
set_option maxRecDepth 100000 in
theorem cq_arr : Cond.arrayClass .int ∈ lw_tbl := List.mem_of_getElem? (i := 111) (by decide +kernel)
set_option maxRecDepth 100000 in
theorem fc_rw_15 : sm_FC "HerOrders$Row" 15 2 0 true (.array .int) := ⟨RX2, TX2, 2, tyX2, rfl, by decide, rfl, by decide, sm_inX2, tyX2_ok, nmX2, rfl, by decide +kernel, List.mem_of_getElem? (i := 96) (by decide +kernel)⟩
set_option maxRecDepth 100000 in
theorem fc_rw_21 : sm_FC "HerOrders$Row" 21 2 1 false .int := ⟨RX2, TX2, 2, tyX2, rfl, by decide, rfl, by decide, sm_inX2, tyX2_ok, nmX2, rfl, by decide +kernel, List.mem_of_getElem? (i := 101) (by decide +kernel)⟩
set_option maxRecDepth 100000 in
theorem ii_rw_init_0 : sm_D prog_4_method_1_code 0 1 1 (.aload_n 0) := ⟨by decide +kernel, rfl⟩
set_option maxRecDepth 100000 in
theorem ii_rw_init_1 : sm_D prog_4_method_1_code 1 3 4 (.invokespecial 3) := ⟨by decide +kernel, rfl⟩
set_option maxRecDepth 100000 in
theorem ii_rw_init_4 : sm_D prog_4_method_1_code 4 1 5 (.aload_n 0) := ⟨by decide +kernel, rfl⟩
set_option maxRecDepth 100000 in
theorem ii_rw_init_5 : sm_D prog_4_method_1_code 5 1 6 (.iload_n 1) := ⟨by decide +kernel, rfl⟩
set_option maxRecDepth 100000 in
theorem ii_rw_init_6 : sm_D prog_4_method_1_code 6 1 7 (.iconst 0) := ⟨by decide +kernel, rfl⟩
set_option maxRecDepth 100000 in
theorem ii_rw_init_7 : sm_D prog_4_method_1_code 7 3 10 (.invokestatic 9) := ⟨by decide +kernel, rfl⟩
set_option maxRecDepth 100000 in
theorem ii_rw_init_10 : sm_D prog_4_method_1_code 10 2 12 (.newarray .int) := ⟨by decide +kernel, rfl⟩
set_option maxRecDepth 100000 in
theorem ii_rw_init_12 : sm_D prog_4_method_1_code 12 3 15 (.putfield 15) := ⟨by decide +kernel, rfl⟩
set_option maxRecDepth 100000 in
theorem ii_rw_init_15 : sm_D prog_4_method_1_code 15 1 16 (.aload_n 0) := ⟨by decide +kernel, rfl⟩
set_option maxRecDepth 100000 in
theorem ii_rw_init_16 : sm_D prog_4_method_1_code 16 2 18 (.bipush (-9)) := ⟨by decide +kernel, rfl⟩
set_option maxRecDepth 100000 in
theorem ii_rw_init_18 : sm_D prog_4_method_1_code 18 3 21 (.putfield 21) := ⟨by decide +kernel, rfl⟩
set_option maxRecDepth 100000 in
theorem ii_rw_init_21 : sm_D prog_4_method_1_code 21 1 22 (.return_) := ⟨by decide +kernel, rfl⟩
set_option maxRecDepth 100000 in
theorem ml_ho_15 : sm_ML "HerOrders" 15 ⟨"HerOrders$Row", "<init>", "(I)V"⟩ := Or.inr ⟨"HerOrders", List.mem_of_getElem? (i := 89) (by decide +kernel)⟩
set_option maxRecDepth 100000 in
theorem fc_ho_18 : sm_FC "HerOrders" 18 6 1 true (.array (.object "HerOrders$Row")) := ⟨RX6, TX6, 7, tyX6, rfl, by decide, rfl, by decide, sm_inX6, tyX6_ok, nmX6, rfl, by decide +kernel, List.mem_of_getElem? (i := 303) (by decide +kernel)⟩
set_option maxRecDepth 100000 in
theorem cq_cl_ho_21 : Cond.classLink "HerOrders" 21 "HerOrders$Deeds" ∈ lw_tbl := List.mem_of_getElem? (i := 112) (by decide +kernel)
set_option maxRecDepth 100000 in
theorem cq_ov_2 : Cond.arrayOver (.object "HerOrders$Deeds") ∈ lw_tbl := List.mem_of_getElem? (i := 113) (by decide +kernel)
set_option maxRecDepth 100000 in
theorem fc_ho_23 : sm_FC "HerOrders" 23 6 3 true (.array (.object "HerOrders$Deeds")) := ⟨RX6, TX6, 7, tyX6, rfl, by decide, rfl, by decide, sm_inX6, tyX6_ok, nmX6, rfl, by decide +kernel, List.mem_of_getElem? (i := 305) (by decide +kernel)⟩
set_option maxRecDepth 100000 in
theorem cq_in_0 : Cond.instantiable "HerOrders$Deeds" 4 ∈ lw_tbl := List.mem_of_getElem? (i := 114) (by decide +kernel)
set_option maxRecDepth 100000 in
theorem cq_ini_0 : Cond.initialized "HerOrders$Deeds" ∈ lw_tbl := List.mem_of_getElem? (i := 72) (by decide +kernel)
abbrev mi_de_init : sm_MI := (⟨"HerOrders$Deeds", "<init>", "(I)V"⟩, prog_2_method_1_code, 2, none, 1)
set_option maxRecDepth 100000 in
theorem mf_de_init : sm_MF mi_de_init 1 := ⟨List.mem_of_getElem? (i := 117) (by decide +kernel), List.mem_of_getElem? (i := 72) (by decide +kernel), ⟨by decide, by decide⟩, by decide +kernel⟩
set_option maxRecDepth 100000 in
theorem mh_de_init : Cond.instanceMethod mi_de_init.1 ∈ lw_tbl := List.mem_of_getElem? (i := 116) (by decide +kernel)
set_option maxRecDepth 100000 in
theorem cq_ob_de_3 : Cond.methodLink "HerOrders$Deeds" 3 Lib.objectInit ∈ lw_tbl := List.mem_of_getElem? (i := 118) (by decide +kernel)
set_option maxRecDepth 100000 in
theorem fc_de_9 : sm_FC "HerOrders$Deeds" 9 0 0 true (.array .int) := ⟨RX0, TX0, 4, tyX0, rfl, by decide, rfl, by decide, sm_inX0, tyX0_ok, nmX0, rfl, by decide +kernel, List.mem_of_getElem? (i := 119) (by decide +kernel)⟩
set_option maxRecDepth 100000 in
theorem fc_de_15 : sm_FC "HerOrders$Deeds" 15 0 1 true (.array .int) := ⟨RX0, TX0, 4, tyX0, rfl, by decide, rfl, by decide, sm_inX0, tyX0_ok, nmX0, rfl, by decide +kernel, List.mem_of_getElem? (i := 121) (by decide +kernel)⟩
set_option maxRecDepth 100000 in
theorem fc_de_18 : sm_FC "HerOrders$Deeds" 18 0 2 true (.array .int) := ⟨RX0, TX0, 4, tyX0, rfl, by decide, rfl, by decide, sm_inX0, tyX0_ok, nmX0, rfl, by decide +kernel, List.mem_of_getElem? (i := 123) (by decide +kernel)⟩
set_option maxRecDepth 100000 in
theorem fc_de_21 : sm_FC "HerOrders$Deeds" 21 0 3 false .int := ⟨RX0, TX0, 4, tyX0, rfl, by decide, rfl, by decide, sm_inX0, tyX0_ok, nmX0, rfl, by decide +kernel, List.mem_of_getElem? (i := 125) (by decide +kernel)⟩
set_option maxRecDepth 100000 in
theorem ii_de_init_0 : sm_D prog_2_method_1_code 0 1 1 (.aload_n 0) := ⟨by decide +kernel, rfl⟩
set_option maxRecDepth 100000 in
theorem ii_de_init_1 : sm_D prog_2_method_1_code 1 3 4 (.invokespecial 3) := ⟨by decide +kernel, rfl⟩
set_option maxRecDepth 100000 in
theorem ii_de_init_4 : sm_D prog_2_method_1_code 4 1 5 (.aload_n 0) := ⟨by decide +kernel, rfl⟩
set_option maxRecDepth 100000 in
theorem ii_de_init_5 : sm_D prog_2_method_1_code 5 2 7 (.bipush 40) := ⟨by decide +kernel, rfl⟩
set_option maxRecDepth 100000 in
theorem ii_de_init_7 : sm_D prog_2_method_1_code 7 2 9 (.newarray .int) := ⟨by decide +kernel, rfl⟩
set_option maxRecDepth 100000 in
theorem ii_de_init_9 : sm_D prog_2_method_1_code 9 3 12 (.putfield 9) := ⟨by decide +kernel, rfl⟩
set_option maxRecDepth 100000 in
theorem ii_de_init_12 : sm_D prog_2_method_1_code 12 1 13 (.aload_n 0) := ⟨by decide +kernel, rfl⟩
set_option maxRecDepth 100000 in
theorem ii_de_init_13 : sm_D prog_2_method_1_code 13 2 15 (.bipush 40) := ⟨by decide +kernel, rfl⟩
set_option maxRecDepth 100000 in
theorem ii_de_init_15 : sm_D prog_2_method_1_code 15 2 17 (.newarray .int) := ⟨by decide +kernel, rfl⟩
set_option maxRecDepth 100000 in
theorem ii_de_init_17 : sm_D prog_2_method_1_code 17 3 20 (.putfield 15) := ⟨by decide +kernel, rfl⟩
set_option maxRecDepth 100000 in
theorem ii_de_init_20 : sm_D prog_2_method_1_code 20 1 21 (.aload_n 0) := ⟨by decide +kernel, rfl⟩
set_option maxRecDepth 100000 in
theorem ii_de_init_21 : sm_D prog_2_method_1_code 21 2 23 (.bipush 40) := ⟨by decide +kernel, rfl⟩
set_option maxRecDepth 100000 in
theorem ii_de_init_23 : sm_D prog_2_method_1_code 23 2 25 (.newarray .int) := ⟨by decide +kernel, rfl⟩
set_option maxRecDepth 100000 in
theorem ii_de_init_25 : sm_D prog_2_method_1_code 25 3 28 (.putfield 18) := ⟨by decide +kernel, rfl⟩
set_option maxRecDepth 100000 in
theorem ii_de_init_28 : sm_D prog_2_method_1_code 28 1 29 (.aload_n 0) := ⟨by decide +kernel, rfl⟩
set_option maxRecDepth 100000 in
theorem ii_de_init_29 : sm_D prog_2_method_1_code 29 1 30 (.iload_n 1) := ⟨by decide +kernel, rfl⟩
set_option maxRecDepth 100000 in
theorem ii_de_init_30 : sm_D prog_2_method_1_code 30 3 33 (.putfield 21) := ⟨by decide +kernel, rfl⟩
set_option maxRecDepth 100000 in
theorem ii_de_init_33 : sm_D prog_2_method_1_code 33 1 34 (.return_) := ⟨by decide +kernel, rfl⟩
set_option maxRecDepth 100000 in
theorem ml_ho_27 : sm_ML "HerOrders" 27 ⟨"HerOrders$Deeds", "<init>", "(I)V"⟩ := Or.inr ⟨"HerOrders", List.mem_of_getElem? (i := 115) (by decide +kernel)⟩
set_option maxRecDepth 100000 in
theorem cq_cl_ho_28 : Cond.classLink "HerOrders" 28 "HerOrders$House" ∈ lw_tbl := List.mem_of_getElem? (i := 137) (by decide +kernel)
set_option maxRecDepth 100000 in
theorem cq_in_1 : Cond.instantiable "HerOrders$House" 13 ∈ lw_tbl := List.mem_of_getElem? (i := 138) (by decide +kernel)
set_option maxRecDepth 100000 in
theorem cq_ini_1 : Cond.initialized "HerOrders$House" ∈ lw_tbl := List.mem_of_getElem? (i := 73) (by decide +kernel)
abbrev mi_hs_init : sm_MI := (⟨"HerOrders$House", "<init>", "()V"⟩, prog_3_method_1_code, 1, none, 2)
set_option maxRecDepth 100000 in
theorem mf_hs_init : sm_MF mi_hs_init 0 := ⟨List.mem_of_getElem? (i := 141) (by decide +kernel), List.mem_of_getElem? (i := 73) (by decide +kernel), ⟨by decide, by decide⟩, by decide +kernel⟩
set_option maxRecDepth 100000 in
theorem mh_hs_init : Cond.instanceMethod mi_hs_init.1 ∈ lw_tbl := List.mem_of_getElem? (i := 140) (by decide +kernel)
set_option maxRecDepth 100000 in
theorem cq_ob_hs_3 : Cond.methodLink "HerOrders$House" 3 Lib.objectInit ∈ lw_tbl := List.mem_of_getElem? (i := 142) (by decide +kernel)
set_option maxRecDepth 100000 in
theorem fc_hs_9 : sm_FC "HerOrders$House" 9 1 1 true (.array .int) := ⟨RX1, TX1, 13, tyX1, rfl, by decide, rfl, by decide, sm_inX1, tyX1_ok, nmX1, rfl, by decide +kernel, List.mem_of_getElem? (i := 149) (by decide +kernel)⟩
set_option maxRecDepth 100000 in
theorem fc_hs_15 : sm_FC "HerOrders$House" 15 1 2 true (.array .int) := ⟨RX1, TX1, 13, tyX1, rfl, by decide, rfl, by decide, sm_inX1, tyX1_ok, nmX1, rfl, by decide +kernel, List.mem_of_getElem? (i := 150) (by decide +kernel)⟩
set_option maxRecDepth 100000 in
theorem fc_hs_18 : sm_FC "HerOrders$House" 18 1 3 true (.array .int) := ⟨RX1, TX1, 13, tyX1, rfl, by decide, rfl, by decide, sm_inX1, tyX1_ok, nmX1, rfl, by decide +kernel, List.mem_of_getElem? (i := 151) (by decide +kernel)⟩
set_option maxRecDepth 100000 in
theorem fc_hs_21 : sm_FC "HerOrders$House" 21 1 4 true (.array .int) := ⟨RX1, TX1, 13, tyX1, rfl, by decide, rfl, by decide, sm_inX1, tyX1_ok, nmX1, rfl, by decide +kernel, List.mem_of_getElem? (i := 152) (by decide +kernel)⟩
set_option maxRecDepth 100000 in
theorem fc_hs_24 : sm_FC "HerOrders$House" 24 1 5 true (.array .int) := ⟨RX1, TX1, 13, tyX1, rfl, by decide, rfl, by decide, sm_inX1, tyX1_ok, nmX1, rfl, by decide +kernel, List.mem_of_getElem? (i := 153) (by decide +kernel)⟩
set_option maxRecDepth 100000 in
theorem fc_hs_27 : sm_FC "HerOrders$House" 27 1 6 true (.array .int) := ⟨RX1, TX1, 13, tyX1, rfl, by decide, rfl, by decide, sm_inX1, tyX1_ok, nmX1, rfl, by decide +kernel, List.mem_of_getElem? (i := 156) (by decide +kernel)⟩
set_option maxRecDepth 100000 in
theorem fc_hs_30 : sm_FC "HerOrders$House" 30 1 9 true (.array .int) := ⟨RX1, TX1, 13, tyX1, rfl, by decide, rfl, by decide, sm_inX1, tyX1_ok, nmX1, rfl, by decide +kernel, List.mem_of_getElem? (i := 161) (by decide +kernel)⟩
set_option maxRecDepth 100000 in
theorem fc_hs_33 : sm_FC "HerOrders$House" 33 1 10 true (.array .int) := ⟨RX1, TX1, 13, tyX1, rfl, by decide, rfl, by decide, sm_inX1, tyX1_ok, nmX1, rfl, by decide +kernel, List.mem_of_getElem? (i := 164) (by decide +kernel)⟩
set_option maxRecDepth 100000 in
theorem cq_cl_hs_36 : Cond.classLink "HerOrders$House" 36 "HerOrders$Deeds" ∈ lw_tbl := List.mem_of_getElem? (i := 143) (by decide +kernel)
set_option maxRecDepth 100000 in
theorem ml_hs_38 : sm_ML "HerOrders$House" 38 ⟨"HerOrders$Deeds", "<init>", "(I)V"⟩ := Or.inr ⟨"HerOrders", List.mem_of_getElem? (i := 144) (by decide +kernel)⟩
set_option maxRecDepth 100000 in
theorem fc_hs_41 : sm_FC "HerOrders$House" 41 1 12 true (.object "HerOrders$Deeds") := ⟨RX1, TX1, 13, tyX1, rfl, by decide, rfl, by decide, sm_inX1, tyX1_ok, nmX1, rfl, by decide +kernel, List.mem_of_getElem? (i := 169) (by decide +kernel)⟩
set_option maxRecDepth 100000 in
theorem ii_hs_init_0 : sm_D prog_3_method_1_code 0 1 1 (.aload_n 0) := ⟨by decide +kernel, rfl⟩
set_option maxRecDepth 100000 in
theorem ii_hs_init_1 : sm_D prog_3_method_1_code 1 3 4 (.invokespecial 3) := ⟨by decide +kernel, rfl⟩
set_option maxRecDepth 100000 in
theorem ii_hs_init_4 : sm_D prog_3_method_1_code 4 1 5 (.aload_n 0) := ⟨by decide +kernel, rfl⟩
set_option maxRecDepth 100000 in
theorem ii_hs_init_5 : sm_D prog_3_method_1_code 5 2 7 (.bipush 6) := ⟨by decide +kernel, rfl⟩
set_option maxRecDepth 100000 in
theorem ii_hs_init_7 : sm_D prog_3_method_1_code 7 2 9 (.newarray .int) := ⟨by decide +kernel, rfl⟩
set_option maxRecDepth 100000 in
theorem ii_hs_init_9 : sm_D prog_3_method_1_code 9 3 12 (.putfield 9) := ⟨by decide +kernel, rfl⟩
set_option maxRecDepth 100000 in
theorem ii_hs_init_12 : sm_D prog_3_method_1_code 12 1 13 (.aload_n 0) := ⟨by decide +kernel, rfl⟩
set_option maxRecDepth 100000 in
theorem ii_hs_init_13 : sm_D prog_3_method_1_code 13 2 15 (.bipush 6) := ⟨by decide +kernel, rfl⟩
set_option maxRecDepth 100000 in
theorem ii_hs_init_15 : sm_D prog_3_method_1_code 15 2 17 (.newarray .int) := ⟨by decide +kernel, rfl⟩
set_option maxRecDepth 100000 in
theorem ii_hs_init_17 : sm_D prog_3_method_1_code 17 3 20 (.putfield 15) := ⟨by decide +kernel, rfl⟩
set_option maxRecDepth 100000 in
theorem ii_hs_init_20 : sm_D prog_3_method_1_code 20 1 21 (.aload_n 0) := ⟨by decide +kernel, rfl⟩
set_option maxRecDepth 100000 in
theorem ii_hs_init_21 : sm_D prog_3_method_1_code 21 2 23 (.bipush 6) := ⟨by decide +kernel, rfl⟩
set_option maxRecDepth 100000 in
theorem ii_hs_init_23 : sm_D prog_3_method_1_code 23 2 25 (.newarray .int) := ⟨by decide +kernel, rfl⟩
set_option maxRecDepth 100000 in
theorem ii_hs_init_25 : sm_D prog_3_method_1_code 25 3 28 (.putfield 18) := ⟨by decide +kernel, rfl⟩
set_option maxRecDepth 100000 in
theorem ii_hs_init_28 : sm_D prog_3_method_1_code 28 1 29 (.aload_n 0) := ⟨by decide +kernel, rfl⟩
set_option maxRecDepth 100000 in
theorem ii_hs_init_29 : sm_D prog_3_method_1_code 29 2 31 (.bipush 6) := ⟨by decide +kernel, rfl⟩
set_option maxRecDepth 100000 in
theorem ii_hs_init_31 : sm_D prog_3_method_1_code 31 2 33 (.newarray .int) := ⟨by decide +kernel, rfl⟩
set_option maxRecDepth 100000 in
theorem ii_hs_init_33 : sm_D prog_3_method_1_code 33 3 36 (.putfield 21) := ⟨by decide +kernel, rfl⟩
set_option maxRecDepth 100000 in
theorem ii_hs_init_36 : sm_D prog_3_method_1_code 36 1 37 (.aload_n 0) := ⟨by decide +kernel, rfl⟩
set_option maxRecDepth 100000 in
theorem ii_hs_init_37 : sm_D prog_3_method_1_code 37 2 39 (.bipush 6) := ⟨by decide +kernel, rfl⟩
set_option maxRecDepth 100000 in
theorem ii_hs_init_39 : sm_D prog_3_method_1_code 39 2 41 (.newarray .int) := ⟨by decide +kernel, rfl⟩
set_option maxRecDepth 100000 in
theorem ii_hs_init_41 : sm_D prog_3_method_1_code 41 3 44 (.putfield 24) := ⟨by decide +kernel, rfl⟩
set_option maxRecDepth 100000 in
theorem ii_hs_init_44 : sm_D prog_3_method_1_code 44 1 45 (.aload_n 0) := ⟨by decide +kernel, rfl⟩
set_option maxRecDepth 100000 in
theorem ii_hs_init_45 : sm_D prog_3_method_1_code 45 2 47 (.bipush 6) := ⟨by decide +kernel, rfl⟩
set_option maxRecDepth 100000 in
theorem ii_hs_init_47 : sm_D prog_3_method_1_code 47 2 49 (.newarray .int) := ⟨by decide +kernel, rfl⟩
set_option maxRecDepth 100000 in
theorem ii_hs_init_49 : sm_D prog_3_method_1_code 49 3 52 (.putfield 27) := ⟨by decide +kernel, rfl⟩
set_option maxRecDepth 100000 in
theorem ii_hs_init_52 : sm_D prog_3_method_1_code 52 1 53 (.aload_n 0) := ⟨by decide +kernel, rfl⟩
set_option maxRecDepth 100000 in
theorem ii_hs_init_53 : sm_D prog_3_method_1_code 53 2 55 (.bipush 8) := ⟨by decide +kernel, rfl⟩
set_option maxRecDepth 100000 in
theorem ii_hs_init_55 : sm_D prog_3_method_1_code 55 2 57 (.newarray .int) := ⟨by decide +kernel, rfl⟩
set_option maxRecDepth 100000 in
theorem ii_hs_init_57 : sm_D prog_3_method_1_code 57 3 60 (.putfield 30) := ⟨by decide +kernel, rfl⟩
set_option maxRecDepth 100000 in
theorem ii_hs_init_60 : sm_D prog_3_method_1_code 60 1 61 (.aload_n 0) := ⟨by decide +kernel, rfl⟩
set_option maxRecDepth 100000 in
theorem ii_hs_init_61 : sm_D prog_3_method_1_code 61 2 63 (.bipush 8) := ⟨by decide +kernel, rfl⟩
set_option maxRecDepth 100000 in
theorem ii_hs_init_63 : sm_D prog_3_method_1_code 63 2 65 (.newarray .int) := ⟨by decide +kernel, rfl⟩
set_option maxRecDepth 100000 in
theorem ii_hs_init_65 : sm_D prog_3_method_1_code 65 3 68 (.putfield 33) := ⟨by decide +kernel, rfl⟩
set_option maxRecDepth 100000 in
theorem ii_hs_init_68 : sm_D prog_3_method_1_code 68 1 69 (.aload_n 0) := ⟨by decide +kernel, rfl⟩
set_option maxRecDepth 100000 in
theorem ii_hs_init_69 : sm_D prog_3_method_1_code 69 3 72 (.new 36) := ⟨by decide +kernel, rfl⟩
set_option maxRecDepth 100000 in
theorem ii_hs_init_72 : sm_D prog_3_method_1_code 72 1 73 (.dup) := ⟨by decide +kernel, rfl⟩
set_option maxRecDepth 100000 in
theorem ii_hs_init_73 : sm_D prog_3_method_1_code 73 1 74 (.iconst 0) := ⟨by decide +kernel, rfl⟩
set_option maxRecDepth 100000 in
theorem ii_hs_init_74 : sm_D prog_3_method_1_code 74 3 77 (.invokespecial 38) := ⟨by decide +kernel, rfl⟩
set_option maxRecDepth 100000 in
theorem ii_hs_init_77 : sm_D prog_3_method_1_code 77 3 80 (.putfield 41) := ⟨by decide +kernel, rfl⟩
set_option maxRecDepth 100000 in
theorem ii_hs_init_80 : sm_D prog_3_method_1_code 80 1 81 (.return_) := ⟨by decide +kernel, rfl⟩
set_option maxRecDepth 100000 in
theorem ml_ho_30 : sm_ML "HerOrders" 30 ⟨"HerOrders$House", "<init>", "()V"⟩ := Or.inr ⟨"HerOrders", List.mem_of_getElem? (i := 139) (by decide +kernel)⟩
set_option maxRecDepth 100000 in
theorem fc_ho_31 : sm_FC "HerOrders" 31 6 2 true (.object "HerOrders$House") := ⟨RX6, TX6, 7, tyX6, rfl, by decide, rfl, by decide, sm_inX6, tyX6_ok, nmX6, rfl, by decide +kernel, List.mem_of_getElem? (i := 304) (by decide +kernel)⟩
set_option maxRecDepth 100000 in
theorem cq_cl_ho_35 : Cond.classLink "HerOrders" 35 "HerOrders$Ways" ∈ lw_tbl := List.mem_of_getElem? (i := 198) (by decide +kernel)
set_option maxRecDepth 100000 in
theorem cq_in_5 : Cond.instantiable "HerOrders$Ways" 14 ∈ lw_tbl := List.mem_of_getElem? (i := 199) (by decide +kernel)
set_option maxRecDepth 100000 in
theorem cq_ini_5 : Cond.initialized "HerOrders$Ways" ∈ lw_tbl := List.mem_of_getElem? (i := 74) (by decide +kernel)
abbrev mi_wy_init : sm_MI := (⟨"HerOrders$Ways", "<init>", "(LHerOrders$House;)V"⟩, prog_7_method_1_code, 2, none, 1)
set_option maxRecDepth 100000 in
theorem mf_wy_init : sm_MF mi_wy_init 1 := ⟨List.mem_of_getElem? (i := 202) (by decide +kernel), List.mem_of_getElem? (i := 74) (by decide +kernel), ⟨by decide, by decide⟩, by decide +kernel⟩
set_option maxRecDepth 100000 in
theorem mh_wy_init : Cond.instanceMethod mi_wy_init.1 ∈ lw_tbl := List.mem_of_getElem? (i := 201) (by decide +kernel)
set_option maxRecDepth 100000 in
theorem cq_ob_wy_3 : Cond.methodLink "HerOrders$Ways" 3 Lib.objectInit ∈ lw_tbl := List.mem_of_getElem? (i := 203) (by decide +kernel)
set_option maxRecDepth 100000 in
theorem fc_wy_9 : sm_FC "HerOrders$Ways" 9 5 0 true (.object "HerOrders$House") := ⟨RX5, TX5, 14, tyX5, rfl, by decide, rfl, by decide, sm_inX5, tyX5_ok, nmX5, rfl, by decide +kernel, List.mem_of_getElem? (i := 204) (by decide +kernel)⟩
set_option maxRecDepth 100000 in
theorem fc_wy_15 : sm_FC "HerOrders$Ways" 15 5 1 true (.array .int) := ⟨RX5, TX5, 14, tyX5, rfl, by decide, rfl, by decide, sm_inX5, tyX5_ok, nmX5, rfl, by decide +kernel, List.mem_of_getElem? (i := 205) (by decide +kernel)⟩
set_option maxRecDepth 100000 in
theorem fc_wy_19 : sm_FC "HerOrders$Ways" 19 5 2 true (.array .int) := ⟨RX5, TX5, 14, tyX5, rfl, by decide, rfl, by decide, sm_inX5, tyX5_ok, nmX5, rfl, by decide +kernel, List.mem_of_getElem? (i := 206) (by decide +kernel)⟩
set_option maxRecDepth 100000 in
theorem fc_wy_22 : sm_FC "HerOrders$Ways" 22 5 4 true (.array .int) := ⟨RX5, TX5, 14, tyX5, rfl, by decide, rfl, by decide, sm_inX5, tyX5_ok, nmX5, rfl, by decide +kernel, List.mem_of_getElem? (i := 209) (by decide +kernel)⟩
set_option maxRecDepth 100000 in
theorem fc_wy_25 : sm_FC "HerOrders$Ways" 25 5 5 true (.array .int) := ⟨RX5, TX5, 14, tyX5, rfl, by decide, rfl, by decide, sm_inX5, tyX5_ok, nmX5, rfl, by decide +kernel, List.mem_of_getElem? (i := 210) (by decide +kernel)⟩
set_option maxRecDepth 100000 in
theorem fc_wy_28 : sm_FC "HerOrders$Ways" 28 5 6 true (.array .int) := ⟨RX5, TX5, 14, tyX5, rfl, by decide, rfl, by decide, sm_inX5, tyX5_ok, nmX5, rfl, by decide +kernel, List.mem_of_getElem? (i := 212) (by decide +kernel)⟩
set_option maxRecDepth 100000 in
theorem fc_wy_31 : sm_FC "HerOrders$Ways" 31 5 7 true (.array .int) := ⟨RX5, TX5, 14, tyX5, rfl, by decide, rfl, by decide, sm_inX5, tyX5_ok, nmX5, rfl, by decide +kernel, List.mem_of_getElem? (i := 213) (by decide +kernel)⟩
set_option maxRecDepth 100000 in
theorem ii_wy_init_0 : sm_D prog_7_method_1_code 0 1 1 (.aload_n 0) := ⟨by decide +kernel, rfl⟩
set_option maxRecDepth 100000 in
theorem ii_wy_init_1 : sm_D prog_7_method_1_code 1 3 4 (.invokespecial 3) := ⟨by decide +kernel, rfl⟩
set_option maxRecDepth 100000 in
theorem ii_wy_init_4 : sm_D prog_7_method_1_code 4 1 5 (.aload_n 0) := ⟨by decide +kernel, rfl⟩
set_option maxRecDepth 100000 in
theorem ii_wy_init_5 : sm_D prog_7_method_1_code 5 1 6 (.aload_n 1) := ⟨by decide +kernel, rfl⟩
set_option maxRecDepth 100000 in
theorem ii_wy_init_6 : sm_D prog_7_method_1_code 6 3 9 (.putfield 9) := ⟨by decide +kernel, rfl⟩
set_option maxRecDepth 100000 in
theorem ii_wy_init_9 : sm_D prog_7_method_1_code 9 1 10 (.aload_n 0) := ⟨by decide +kernel, rfl⟩
set_option maxRecDepth 100000 in
theorem ii_wy_init_10 : sm_D prog_7_method_1_code 10 1 11 (.iconst 5) := ⟨by decide +kernel, rfl⟩
set_option maxRecDepth 100000 in
theorem ii_wy_init_11 : sm_D prog_7_method_1_code 11 2 13 (.newarray .int) := ⟨by decide +kernel, rfl⟩
set_option maxRecDepth 100000 in
theorem ii_wy_init_13 : sm_D prog_7_method_1_code 13 3 16 (.putfield 15) := ⟨by decide +kernel, rfl⟩
set_option maxRecDepth 100000 in
theorem ii_wy_init_16 : sm_D prog_7_method_1_code 16 1 17 (.aload_n 0) := ⟨by decide +kernel, rfl⟩
set_option maxRecDepth 100000 in
theorem ii_wy_init_17 : sm_D prog_7_method_1_code 17 1 18 (.iconst 5) := ⟨by decide +kernel, rfl⟩
set_option maxRecDepth 100000 in
theorem ii_wy_init_18 : sm_D prog_7_method_1_code 18 2 20 (.newarray .int) := ⟨by decide +kernel, rfl⟩
set_option maxRecDepth 100000 in
theorem ii_wy_init_20 : sm_D prog_7_method_1_code 20 3 23 (.putfield 19) := ⟨by decide +kernel, rfl⟩
set_option maxRecDepth 100000 in
theorem ii_wy_init_23 : sm_D prog_7_method_1_code 23 1 24 (.aload_n 0) := ⟨by decide +kernel, rfl⟩
set_option maxRecDepth 100000 in
theorem ii_wy_init_24 : sm_D prog_7_method_1_code 24 1 25 (.iconst 5) := ⟨by decide +kernel, rfl⟩
set_option maxRecDepth 100000 in
theorem ii_wy_init_25 : sm_D prog_7_method_1_code 25 2 27 (.newarray .int) := ⟨by decide +kernel, rfl⟩
set_option maxRecDepth 100000 in
theorem ii_wy_init_27 : sm_D prog_7_method_1_code 27 3 30 (.putfield 22) := ⟨by decide +kernel, rfl⟩
set_option maxRecDepth 100000 in
theorem ii_wy_init_30 : sm_D prog_7_method_1_code 30 1 31 (.aload_n 0) := ⟨by decide +kernel, rfl⟩
set_option maxRecDepth 100000 in
theorem ii_wy_init_31 : sm_D prog_7_method_1_code 31 2 33 (.bipush 6) := ⟨by decide +kernel, rfl⟩
set_option maxRecDepth 100000 in
theorem ii_wy_init_33 : sm_D prog_7_method_1_code 33 2 35 (.newarray .int) := ⟨by decide +kernel, rfl⟩
set_option maxRecDepth 100000 in
theorem ii_wy_init_35 : sm_D prog_7_method_1_code 35 3 38 (.putfield 25) := ⟨by decide +kernel, rfl⟩
set_option maxRecDepth 100000 in
theorem ii_wy_init_38 : sm_D prog_7_method_1_code 38 1 39 (.aload_n 0) := ⟨by decide +kernel, rfl⟩
set_option maxRecDepth 100000 in
theorem ii_wy_init_39 : sm_D prog_7_method_1_code 39 2 41 (.bipush 64) := ⟨by decide +kernel, rfl⟩
set_option maxRecDepth 100000 in
theorem ii_wy_init_41 : sm_D prog_7_method_1_code 41 2 43 (.newarray .int) := ⟨by decide +kernel, rfl⟩
set_option maxRecDepth 100000 in
theorem ii_wy_init_43 : sm_D prog_7_method_1_code 43 3 46 (.putfield 28) := ⟨by decide +kernel, rfl⟩
set_option maxRecDepth 100000 in
theorem ii_wy_init_46 : sm_D prog_7_method_1_code 46 1 47 (.aload_n 0) := ⟨by decide +kernel, rfl⟩
set_option maxRecDepth 100000 in
theorem ii_wy_init_47 : sm_D prog_7_method_1_code 47 1 48 (.iconst 5) := ⟨by decide +kernel, rfl⟩
set_option maxRecDepth 100000 in
theorem ii_wy_init_48 : sm_D prog_7_method_1_code 48 2 50 (.newarray .int) := ⟨by decide +kernel, rfl⟩
set_option maxRecDepth 100000 in
theorem ii_wy_init_50 : sm_D prog_7_method_1_code 50 3 53 (.putfield 31) := ⟨by decide +kernel, rfl⟩
set_option maxRecDepth 100000 in
theorem ii_wy_init_53 : sm_D prog_7_method_1_code 53 1 54 (.return_) := ⟨by decide +kernel, rfl⟩
set_option maxRecDepth 100000 in
theorem ml_ho_37 : sm_ML "HerOrders" 37 ⟨"HerOrders$Ways", "<init>", "(LHerOrders$House;)V"⟩ := Or.inr ⟨"HerOrders", List.mem_of_getElem? (i := 200) (by decide +kernel)⟩
set_option maxRecDepth 100000 in
theorem fc_ho_40 : sm_FC "HerOrders" 40 6 4 true (.object "HerOrders$Ways") := ⟨RX6, TX6, 7, tyX6, rfl, by decide, rfl, by decide, sm_inX6, tyX6_ok, nmX6, rfl, by decide +kernel, List.mem_of_getElem? (i := 306) (by decide +kernel)⟩
set_option maxRecDepth 100000 in
theorem cq_cl_ho_44 : Cond.classLink "HerOrders" 44 "HerOrders$Trials" ∈ lw_tbl := List.mem_of_getElem? (i := 254) (by decide +kernel)
set_option maxRecDepth 100000 in
theorem cq_in_4 : Cond.instantiable "HerOrders$Trials" 5 ∈ lw_tbl := List.mem_of_getElem? (i := 255) (by decide +kernel)
set_option maxRecDepth 100000 in
theorem cq_ini_4 : Cond.initialized "HerOrders$Trials" ∈ lw_tbl := List.mem_of_getElem? (i := 75) (by decide +kernel)
abbrev mi_tr_init : sm_MI := (⟨"HerOrders$Trials", "<init>", "(LHerOrders$House;)V"⟩, prog_6_method_1_code, 2, none, 1)
set_option maxRecDepth 100000 in
theorem mf_tr_init : sm_MF mi_tr_init 1 := ⟨List.mem_of_getElem? (i := 258) (by decide +kernel), List.mem_of_getElem? (i := 75) (by decide +kernel), ⟨by decide, by decide⟩, by decide +kernel⟩
set_option maxRecDepth 100000 in
theorem mh_tr_init : Cond.instanceMethod mi_tr_init.1 ∈ lw_tbl := List.mem_of_getElem? (i := 257) (by decide +kernel)
set_option maxRecDepth 100000 in
theorem cq_ob_tr_3 : Cond.methodLink "HerOrders$Trials" 3 Lib.objectInit ∈ lw_tbl := List.mem_of_getElem? (i := 259) (by decide +kernel)
set_option maxRecDepth 100000 in
theorem fc_tr_9 : sm_FC "HerOrders$Trials" 9 4 0 true (.object "HerOrders$House") := ⟨RX4, TX4, 5, tyX4, rfl, by decide, rfl, by decide, sm_inX4, tyX4_ok, nmX4, rfl, by decide +kernel, List.mem_of_getElem? (i := 260) (by decide +kernel)⟩
set_option maxRecDepth 100000 in
theorem fc_tr_15 : sm_FC "HerOrders$Trials" 15 4 1 true (.array .int) := ⟨RX4, TX4, 5, tyX4, rfl, by decide, rfl, by decide, sm_inX4, tyX4_ok, nmX4, rfl, by decide +kernel, List.mem_of_getElem? (i := 261) (by decide +kernel)⟩
set_option maxRecDepth 100000 in
theorem fc_tr_19 : sm_FC "HerOrders$Trials" 19 4 2 true (.array .int) := ⟨RX4, TX4, 5, tyX4, rfl, by decide, rfl, by decide, sm_inX4, tyX4_ok, nmX4, rfl, by decide +kernel, List.mem_of_getElem? (i := 262) (by decide +kernel)⟩
set_option maxRecDepth 100000 in
theorem fc_tr_22 : sm_FC "HerOrders$Trials" 22 4 4 true (.array .int) := ⟨RX4, TX4, 5, tyX4, rfl, by decide, rfl, by decide, sm_inX4, tyX4_ok, nmX4, rfl, by decide +kernel, List.mem_of_getElem? (i := 266) (by decide +kernel)⟩
set_option maxRecDepth 100000 in
theorem ii_tr_init_0 : sm_D prog_6_method_1_code 0 1 1 (.aload_n 0) := ⟨by decide +kernel, rfl⟩
set_option maxRecDepth 100000 in
theorem ii_tr_init_1 : sm_D prog_6_method_1_code 1 3 4 (.invokespecial 3) := ⟨by decide +kernel, rfl⟩
set_option maxRecDepth 100000 in
theorem ii_tr_init_4 : sm_D prog_6_method_1_code 4 1 5 (.aload_n 0) := ⟨by decide +kernel, rfl⟩
set_option maxRecDepth 100000 in
theorem ii_tr_init_5 : sm_D prog_6_method_1_code 5 1 6 (.aload_n 1) := ⟨by decide +kernel, rfl⟩
set_option maxRecDepth 100000 in
theorem ii_tr_init_6 : sm_D prog_6_method_1_code 6 3 9 (.putfield 9) := ⟨by decide +kernel, rfl⟩
set_option maxRecDepth 100000 in
theorem ii_tr_init_9 : sm_D prog_6_method_1_code 9 1 10 (.aload_n 0) := ⟨by decide +kernel, rfl⟩
set_option maxRecDepth 100000 in
theorem ii_tr_init_10 : sm_D prog_6_method_1_code 10 1 11 (.iconst 4) := ⟨by decide +kernel, rfl⟩
set_option maxRecDepth 100000 in
theorem ii_tr_init_11 : sm_D prog_6_method_1_code 11 2 13 (.newarray .int) := ⟨by decide +kernel, rfl⟩
set_option maxRecDepth 100000 in
theorem ii_tr_init_13 : sm_D prog_6_method_1_code 13 3 16 (.putfield 15) := ⟨by decide +kernel, rfl⟩
set_option maxRecDepth 100000 in
theorem ii_tr_init_16 : sm_D prog_6_method_1_code 16 1 17 (.aload_n 0) := ⟨by decide +kernel, rfl⟩
set_option maxRecDepth 100000 in
theorem ii_tr_init_17 : sm_D prog_6_method_1_code 17 1 18 (.iconst 4) := ⟨by decide +kernel, rfl⟩
set_option maxRecDepth 100000 in
theorem ii_tr_init_18 : sm_D prog_6_method_1_code 18 2 20 (.newarray .int) := ⟨by decide +kernel, rfl⟩
set_option maxRecDepth 100000 in
theorem ii_tr_init_20 : sm_D prog_6_method_1_code 20 3 23 (.putfield 19) := ⟨by decide +kernel, rfl⟩
set_option maxRecDepth 100000 in
theorem ii_tr_init_23 : sm_D prog_6_method_1_code 23 1 24 (.aload_n 0) := ⟨by decide +kernel, rfl⟩
set_option maxRecDepth 100000 in
theorem ii_tr_init_24 : sm_D prog_6_method_1_code 24 2 26 (.bipush 9) := ⟨by decide +kernel, rfl⟩
set_option maxRecDepth 100000 in
theorem ii_tr_init_26 : sm_D prog_6_method_1_code 26 2 28 (.newarray .int) := ⟨by decide +kernel, rfl⟩
set_option maxRecDepth 100000 in
theorem ii_tr_init_28 : sm_D prog_6_method_1_code 28 3 31 (.putfield 22) := ⟨by decide +kernel, rfl⟩
set_option maxRecDepth 100000 in
theorem ii_tr_init_31 : sm_D prog_6_method_1_code 31 1 32 (.return_) := ⟨by decide +kernel, rfl⟩
set_option maxRecDepth 100000 in
theorem ml_ho_46 : sm_ML "HerOrders" 46 ⟨"HerOrders$Trials", "<init>", "(LHerOrders$House;)V"⟩ := Or.inr ⟨"HerOrders", List.mem_of_getElem? (i := 256) (by decide +kernel)⟩
set_option maxRecDepth 100000 in
theorem fc_ho_47 : sm_FC "HerOrders" 47 6 5 true (.object "HerOrders$Trials") := ⟨RX6, TX6, 7, tyX6, rfl, by decide, rfl, by decide, sm_inX6, tyX6_ok, nmX6, rfl, by decide +kernel, List.mem_of_getElem? (i := 307) (by decide +kernel)⟩
set_option maxRecDepth 100000 in
theorem cq_cl_ho_51 : Cond.classLink "HerOrders" 51 "HerOrders$Told" ∈ lw_tbl := List.mem_of_getElem? (i := 278) (by decide +kernel)
set_option maxRecDepth 100000 in
theorem cq_in_3 : Cond.instantiable "HerOrders$Told" 5 ∈ lw_tbl := List.mem_of_getElem? (i := 279) (by decide +kernel)
set_option maxRecDepth 100000 in
theorem cq_ini_3 : Cond.initialized "HerOrders$Told" ∈ lw_tbl := List.mem_of_getElem? (i := 76) (by decide +kernel)
abbrev mi_td_init : sm_MI := (⟨"HerOrders$Told", "<init>", "()V"⟩, prog_5_method_1_code, 1, none, 1)
set_option maxRecDepth 100000 in
theorem mf_td_init : sm_MF mi_td_init 0 := ⟨List.mem_of_getElem? (i := 282) (by decide +kernel), List.mem_of_getElem? (i := 76) (by decide +kernel), ⟨by decide, by decide⟩, by decide +kernel⟩
set_option maxRecDepth 100000 in
theorem mh_td_init : Cond.instanceMethod mi_td_init.1 ∈ lw_tbl := List.mem_of_getElem? (i := 281) (by decide +kernel)
set_option maxRecDepth 100000 in
theorem cq_ob_td_3 : Cond.methodLink "HerOrders$Told" 3 Lib.objectInit ∈ lw_tbl := List.mem_of_getElem? (i := 283) (by decide +kernel)
set_option maxRecDepth 100000 in
theorem fc_td_9 : sm_FC "HerOrders$Told" 9 3 2 false .long := ⟨RX3, TX3, 5, tyX3, rfl, by decide, rfl, by decide, sm_inX3, tyX3_ok, nmX3, rfl, by decide +kernel, List.mem_of_getElem? (i := 287) (by decide +kernel)⟩
set_option maxRecDepth 100000 in
theorem fc_td_15 : sm_FC "HerOrders$Told" 15 3 4 true (.array .int) := ⟨RX3, TX3, 5, tyX3, rfl, by decide, rfl, by decide, sm_inX3, tyX3_ok, nmX3, rfl, by decide +kernel, List.mem_of_getElem? (i := 290) (by decide +kernel)⟩
set_option maxRecDepth 100000 in
theorem ii_td_init_0 : sm_D prog_5_method_1_code 0 1 1 (.aload_n 0) := ⟨by decide +kernel, rfl⟩
set_option maxRecDepth 100000 in
theorem ii_td_init_1 : sm_D prog_5_method_1_code 1 3 4 (.invokespecial 3) := ⟨by decide +kernel, rfl⟩
set_option maxRecDepth 100000 in
theorem ii_td_init_4 : sm_D prog_5_method_1_code 4 1 5 (.aload_n 0) := ⟨by decide +kernel, rfl⟩
set_option maxRecDepth 100000 in
theorem ii_td_init_5 : sm_D prog_5_method_1_code 5 1 6 (.lconst 1) := ⟨by decide +kernel, rfl⟩
set_option maxRecDepth 100000 in
theorem ii_td_init_6 : sm_D prog_5_method_1_code 6 3 9 (.putfield 9) := ⟨by decide +kernel, rfl⟩
set_option maxRecDepth 100000 in
theorem ii_td_init_9 : sm_D prog_5_method_1_code 9 1 10 (.aload_n 0) := ⟨by decide +kernel, rfl⟩
set_option maxRecDepth 100000 in
theorem ii_td_init_10 : sm_D prog_5_method_1_code 10 2 12 (.bipush 6) := ⟨by decide +kernel, rfl⟩
set_option maxRecDepth 100000 in
theorem ii_td_init_12 : sm_D prog_5_method_1_code 12 2 14 (.newarray .int) := ⟨by decide +kernel, rfl⟩
set_option maxRecDepth 100000 in
theorem ii_td_init_14 : sm_D prog_5_method_1_code 14 3 17 (.putfield 15) := ⟨by decide +kernel, rfl⟩
set_option maxRecDepth 100000 in
theorem ii_td_init_17 : sm_D prog_5_method_1_code 17 1 18 (.return_) := ⟨by decide +kernel, rfl⟩
set_option maxRecDepth 100000 in
theorem ml_ho_53 : sm_ML "HerOrders" 53 ⟨"HerOrders$Told", "<init>", "()V"⟩ := Or.inr ⟨"HerOrders", List.mem_of_getElem? (i := 280) (by decide +kernel)⟩
set_option maxRecDepth 100000 in
theorem fc_ho_54 : sm_FC "HerOrders" 54 6 6 true (.object "HerOrders$Told") := ⟨RX6, TX6, 7, tyX6, rfl, by decide, rfl, by decide, sm_inX6, tyX6_ok, nmX6, rfl, by decide +kernel, List.mem_of_getElem? (i := 308) (by decide +kernel)⟩
set_option maxRecDepth 100000 in
theorem ii_ho_init_0 : sm_D prog_1_method_1_code 0 1 1 (.aload_n 0) := ⟨by decide +kernel, rfl⟩
set_option maxRecDepth 100000 in
theorem ii_ho_init_1 : sm_D prog_1_method_1_code 1 3 4 (.invokespecial 1) := ⟨by decide +kernel, rfl⟩
set_option maxRecDepth 100000 in
theorem ii_ho_init_4 : sm_D prog_1_method_1_code 4 1 5 (.aload_n 0) := ⟨by decide +kernel, rfl⟩
set_option maxRecDepth 100000 in
theorem ii_ho_init_5 : sm_D prog_1_method_1_code 5 2 7 (.bipush 6) := ⟨by decide +kernel, rfl⟩
set_option maxRecDepth 100000 in
theorem ii_ho_init_7 : sm_D prog_1_method_1_code 7 3 10 (.anewarray 9) := ⟨by decide +kernel, rfl⟩
set_option maxRecDepth 100000 in
theorem ii_ho_init_10 : sm_D prog_1_method_1_code 10 3 13 (.putfield 11) := ⟨by decide +kernel, rfl⟩
set_option maxRecDepth 100000 in
theorem ii_ho_init_13 : sm_D prog_1_method_1_code 13 1 14 (.iconst 0) := ⟨by decide +kernel, rfl⟩
set_option maxRecDepth 100000 in
theorem ii_ho_init_14 : sm_D prog_1_method_1_code 14 1 15 (.istore_n 1) := ⟨by decide +kernel, rfl⟩
set_option maxRecDepth 100000 in
theorem ii_ho_init_15 : sm_D prog_1_method_1_code 15 1 16 (.iload_n 1) := ⟨by decide +kernel, rfl⟩
set_option maxRecDepth 100000 in
theorem ii_ho_init_16 : sm_D prog_1_method_1_code 16 2 18 (.bipush 6) := ⟨by decide +kernel, rfl⟩
set_option maxRecDepth 100000 in
theorem ii_ho_init_18 : sm_D prog_1_method_1_code 18 3 21 (.if_icmp .ge 24) := ⟨by decide +kernel, rfl⟩
set_option maxRecDepth 100000 in
theorem ii_ho_init_21 : sm_D prog_1_method_1_code 21 1 22 (.aload_n 0) := ⟨by decide +kernel, rfl⟩
set_option maxRecDepth 100000 in
theorem ii_ho_init_22 : sm_D prog_1_method_1_code 22 3 25 (.getfield 11) := ⟨by decide +kernel, rfl⟩
set_option maxRecDepth 100000 in
theorem ii_ho_init_25 : sm_D prog_1_method_1_code 25 1 26 (.iload_n 1) := ⟨by decide +kernel, rfl⟩
set_option maxRecDepth 100000 in
theorem ii_ho_init_26 : sm_D prog_1_method_1_code 26 3 29 (.new 9) := ⟨by decide +kernel, rfl⟩
set_option maxRecDepth 100000 in
theorem ii_ho_init_29 : sm_D prog_1_method_1_code 29 1 30 (.dup) := ⟨by decide +kernel, rfl⟩
set_option maxRecDepth 100000 in
theorem ii_ho_init_30 : sm_D prog_1_method_1_code 30 2 32 (.bipush 40) := ⟨by decide +kernel, rfl⟩
set_option maxRecDepth 100000 in
theorem ii_ho_init_32 : sm_D prog_1_method_1_code 32 3 35 (.invokespecial 15) := ⟨by decide +kernel, rfl⟩
set_option maxRecDepth 100000 in
theorem ii_ho_init_35 : sm_D prog_1_method_1_code 35 1 36 (.aastore) := ⟨by decide +kernel, rfl⟩
set_option maxRecDepth 100000 in
theorem ii_ho_init_36 : sm_D prog_1_method_1_code 36 3 39 (.iinc 1 1) := ⟨by decide +kernel, rfl⟩
set_option maxRecDepth 100000 in
theorem ii_ho_init_39 : sm_D prog_1_method_1_code 39 3 42 (.goto (-24)) := ⟨by decide +kernel, rfl⟩
set_option maxRecDepth 100000 in
theorem ii_ho_init_42 : sm_D prog_1_method_1_code 42 1 43 (.aload_n 0) := ⟨by decide +kernel, rfl⟩
set_option maxRecDepth 100000 in
theorem ii_ho_init_43 : sm_D prog_1_method_1_code 43 1 44 (.iconst 4) := ⟨by decide +kernel, rfl⟩
set_option maxRecDepth 100000 in
theorem ii_ho_init_44 : sm_D prog_1_method_1_code 44 3 47 (.anewarray 9) := ⟨by decide +kernel, rfl⟩
set_option maxRecDepth 100000 in
theorem ii_ho_init_47 : sm_D prog_1_method_1_code 47 3 50 (.putfield 18) := ⟨by decide +kernel, rfl⟩
set_option maxRecDepth 100000 in
theorem ii_ho_init_50 : sm_D prog_1_method_1_code 50 1 51 (.iconst 0) := ⟨by decide +kernel, rfl⟩
set_option maxRecDepth 100000 in
theorem ii_ho_init_51 : sm_D prog_1_method_1_code 51 1 52 (.istore_n 1) := ⟨by decide +kernel, rfl⟩
set_option maxRecDepth 100000 in
theorem ii_ho_init_52 : sm_D prog_1_method_1_code 52 1 53 (.iload_n 1) := ⟨by decide +kernel, rfl⟩
set_option maxRecDepth 100000 in
theorem ii_ho_init_53 : sm_D prog_1_method_1_code 53 1 54 (.iconst 4) := ⟨by decide +kernel, rfl⟩
set_option maxRecDepth 100000 in
theorem ii_ho_init_54 : sm_D prog_1_method_1_code 54 3 57 (.if_icmp .ge 24) := ⟨by decide +kernel, rfl⟩
set_option maxRecDepth 100000 in
theorem ii_ho_init_57 : sm_D prog_1_method_1_code 57 1 58 (.aload_n 0) := ⟨by decide +kernel, rfl⟩
set_option maxRecDepth 100000 in
theorem ii_ho_init_58 : sm_D prog_1_method_1_code 58 3 61 (.getfield 18) := ⟨by decide +kernel, rfl⟩
set_option maxRecDepth 100000 in
theorem ii_ho_init_61 : sm_D prog_1_method_1_code 61 1 62 (.iload_n 1) := ⟨by decide +kernel, rfl⟩
set_option maxRecDepth 100000 in
theorem ii_ho_init_62 : sm_D prog_1_method_1_code 62 3 65 (.new 9) := ⟨by decide +kernel, rfl⟩
set_option maxRecDepth 100000 in
theorem ii_ho_init_65 : sm_D prog_1_method_1_code 65 1 66 (.dup) := ⟨by decide +kernel, rfl⟩
set_option maxRecDepth 100000 in
theorem ii_ho_init_66 : sm_D prog_1_method_1_code 66 2 68 (.bipush 60) := ⟨by decide +kernel, rfl⟩
set_option maxRecDepth 100000 in
theorem ii_ho_init_68 : sm_D prog_1_method_1_code 68 3 71 (.invokespecial 15) := ⟨by decide +kernel, rfl⟩
set_option maxRecDepth 100000 in
theorem ii_ho_init_71 : sm_D prog_1_method_1_code 71 1 72 (.aastore) := ⟨by decide +kernel, rfl⟩
set_option maxRecDepth 100000 in
theorem ii_ho_init_72 : sm_D prog_1_method_1_code 72 3 75 (.iinc 1 1) := ⟨by decide +kernel, rfl⟩
set_option maxRecDepth 100000 in
theorem ii_ho_init_75 : sm_D prog_1_method_1_code 75 3 78 (.goto (-23)) := ⟨by decide +kernel, rfl⟩
set_option maxRecDepth 100000 in
theorem ii_ho_init_78 : sm_D prog_1_method_1_code 78 1 79 (.aload_n 0) := ⟨by decide +kernel, rfl⟩
set_option maxRecDepth 100000 in
theorem ii_ho_init_79 : sm_D prog_1_method_1_code 79 1 80 (.iconst 3) := ⟨by decide +kernel, rfl⟩
set_option maxRecDepth 100000 in
theorem ii_ho_init_80 : sm_D prog_1_method_1_code 80 3 83 (.anewarray 21) := ⟨by decide +kernel, rfl⟩
set_option maxRecDepth 100000 in
theorem ii_ho_init_83 : sm_D prog_1_method_1_code 83 3 86 (.putfield 23) := ⟨by decide +kernel, rfl⟩
set_option maxRecDepth 100000 in
theorem ii_ho_init_86 : sm_D prog_1_method_1_code 86 1 87 (.iconst 0) := ⟨by decide +kernel, rfl⟩
set_option maxRecDepth 100000 in
theorem ii_ho_init_87 : sm_D prog_1_method_1_code 87 1 88 (.istore_n 1) := ⟨by decide +kernel, rfl⟩
set_option maxRecDepth 100000 in
theorem ii_ho_init_88 : sm_D prog_1_method_1_code 88 1 89 (.iload_n 1) := ⟨by decide +kernel, rfl⟩
set_option maxRecDepth 100000 in
theorem ii_ho_init_89 : sm_D prog_1_method_1_code 89 1 90 (.iconst 3) := ⟨by decide +kernel, rfl⟩
set_option maxRecDepth 100000 in
theorem ii_ho_init_90 : sm_D prog_1_method_1_code 90 3 93 (.if_icmp .ge 24) := ⟨by decide +kernel, rfl⟩
set_option maxRecDepth 100000 in
theorem ii_ho_init_93 : sm_D prog_1_method_1_code 93 1 94 (.aload_n 0) := ⟨by decide +kernel, rfl⟩
set_option maxRecDepth 100000 in
theorem ii_ho_init_94 : sm_D prog_1_method_1_code 94 3 97 (.getfield 23) := ⟨by decide +kernel, rfl⟩
set_option maxRecDepth 100000 in
theorem ii_ho_init_97 : sm_D prog_1_method_1_code 97 1 98 (.iload_n 1) := ⟨by decide +kernel, rfl⟩
set_option maxRecDepth 100000 in
theorem ii_ho_init_98 : sm_D prog_1_method_1_code 98 3 101 (.new 21) := ⟨by decide +kernel, rfl⟩
set_option maxRecDepth 100000 in
theorem ii_ho_init_101 : sm_D prog_1_method_1_code 101 1 102 (.dup) := ⟨by decide +kernel, rfl⟩
set_option maxRecDepth 100000 in
theorem ii_ho_init_102 : sm_D prog_1_method_1_code 102 2 104 (.bipush (-9)) := ⟨by decide +kernel, rfl⟩
set_option maxRecDepth 100000 in
theorem ii_ho_init_104 : sm_D prog_1_method_1_code 104 3 107 (.invokespecial 27) := ⟨by decide +kernel, rfl⟩
set_option maxRecDepth 100000 in
theorem ii_ho_init_107 : sm_D prog_1_method_1_code 107 1 108 (.aastore) := ⟨by decide +kernel, rfl⟩
set_option maxRecDepth 100000 in
theorem ii_ho_init_108 : sm_D prog_1_method_1_code 108 3 111 (.iinc 1 1) := ⟨by decide +kernel, rfl⟩
set_option maxRecDepth 100000 in
theorem ii_ho_init_111 : sm_D prog_1_method_1_code 111 3 114 (.goto (-23)) := ⟨by decide +kernel, rfl⟩
set_option maxRecDepth 100000 in
theorem ii_ho_init_114 : sm_D prog_1_method_1_code 114 1 115 (.aload_n 0) := ⟨by decide +kernel, rfl⟩
set_option maxRecDepth 100000 in
theorem ii_ho_init_115 : sm_D prog_1_method_1_code 115 3 118 (.new 28) := ⟨by decide +kernel, rfl⟩
set_option maxRecDepth 100000 in
theorem ii_ho_init_118 : sm_D prog_1_method_1_code 118 1 119 (.dup) := ⟨by decide +kernel, rfl⟩
set_option maxRecDepth 100000 in
theorem ii_ho_init_119 : sm_D prog_1_method_1_code 119 3 122 (.invokespecial 30) := ⟨by decide +kernel, rfl⟩
set_option maxRecDepth 100000 in
theorem ii_ho_init_122 : sm_D prog_1_method_1_code 122 3 125 (.putfield 31) := ⟨by decide +kernel, rfl⟩
set_option maxRecDepth 100000 in
theorem ii_ho_init_125 : sm_D prog_1_method_1_code 125 1 126 (.aload_n 0) := ⟨by decide +kernel, rfl⟩
set_option maxRecDepth 100000 in
theorem ii_ho_init_126 : sm_D prog_1_method_1_code 126 3 129 (.new 35) := ⟨by decide +kernel, rfl⟩
set_option maxRecDepth 100000 in
theorem ii_ho_init_129 : sm_D prog_1_method_1_code 129 1 130 (.dup) := ⟨by decide +kernel, rfl⟩
set_option maxRecDepth 100000 in
theorem ii_ho_init_130 : sm_D prog_1_method_1_code 130 1 131 (.aload_n 0) := ⟨by decide +kernel, rfl⟩
set_option maxRecDepth 100000 in
theorem ii_ho_init_131 : sm_D prog_1_method_1_code 131 3 134 (.getfield 31) := ⟨by decide +kernel, rfl⟩
set_option maxRecDepth 100000 in
theorem ii_ho_init_134 : sm_D prog_1_method_1_code 134 3 137 (.invokespecial 37) := ⟨by decide +kernel, rfl⟩
set_option maxRecDepth 100000 in
theorem ii_ho_init_137 : sm_D prog_1_method_1_code 137 3 140 (.putfield 40) := ⟨by decide +kernel, rfl⟩
set_option maxRecDepth 100000 in
theorem ii_ho_init_140 : sm_D prog_1_method_1_code 140 1 141 (.aload_n 0) := ⟨by decide +kernel, rfl⟩
set_option maxRecDepth 100000 in
theorem ii_ho_init_141 : sm_D prog_1_method_1_code 141 3 144 (.new 44) := ⟨by decide +kernel, rfl⟩
set_option maxRecDepth 100000 in
theorem ii_ho_init_144 : sm_D prog_1_method_1_code 144 1 145 (.dup) := ⟨by decide +kernel, rfl⟩
set_option maxRecDepth 100000 in
theorem ii_ho_init_145 : sm_D prog_1_method_1_code 145 1 146 (.aload_n 0) := ⟨by decide +kernel, rfl⟩
set_option maxRecDepth 100000 in
theorem ii_ho_init_146 : sm_D prog_1_method_1_code 146 3 149 (.getfield 31) := ⟨by decide +kernel, rfl⟩
set_option maxRecDepth 100000 in
theorem ii_ho_init_149 : sm_D prog_1_method_1_code 149 3 152 (.invokespecial 46) := ⟨by decide +kernel, rfl⟩
set_option maxRecDepth 100000 in
theorem ii_ho_init_152 : sm_D prog_1_method_1_code 152 3 155 (.putfield 47) := ⟨by decide +kernel, rfl⟩
set_option maxRecDepth 100000 in
theorem ii_ho_init_155 : sm_D prog_1_method_1_code 155 1 156 (.aload_n 0) := ⟨by decide +kernel, rfl⟩
set_option maxRecDepth 100000 in
theorem ii_ho_init_156 : sm_D prog_1_method_1_code 156 3 159 (.new 51) := ⟨by decide +kernel, rfl⟩
set_option maxRecDepth 100000 in
theorem ii_ho_init_159 : sm_D prog_1_method_1_code 159 1 160 (.dup) := ⟨by decide +kernel, rfl⟩
set_option maxRecDepth 100000 in
theorem ii_ho_init_160 : sm_D prog_1_method_1_code 160 3 163 (.invokespecial 53) := ⟨by decide +kernel, rfl⟩
set_option maxRecDepth 100000 in
theorem ii_ho_init_163 : sm_D prog_1_method_1_code 163 3 166 (.putfield 54) := ⟨by decide +kernel, rfl⟩
set_option maxRecDepth 100000 in
theorem ii_ho_init_166 : sm_D prog_1_method_1_code 166 1 167 (.return_) := ⟨by decide +kernel, rfl⟩
set_option maxRecDepth 100000 in
theorem ml_la_81 : sm_ML "HerOrdersLaw" 81 ⟨"HerOrders", "<init>", "()V"⟩ := Or.inl (List.mem_of_getElem? (i := 80) (by decide +kernel))
set_option maxRecDepth 100000 in
theorem ii_la_law_0 : sm_D code 0 3 3 (.new 20) := ⟨by decide +kernel, rfl⟩
set_option maxRecDepth 100000 in
theorem ii_la_law_3 : sm_D code 3 1 4 (.dup) := ⟨by decide +kernel, rfl⟩
set_option maxRecDepth 100000 in
theorem ii_la_law_4 : sm_D code 4 3 7 (.invokespecial 81) := ⟨by decide +kernel, rfl⟩
set_option maxRecDepth 100000 in
theorem ii_la_law_7 : sm_D code 7 1 8 (.astore_n 1) := ⟨by decide +kernel, rfl⟩
set_option maxRecDepth 100000 in
theorem ii_la_law_8 : sm_D code 8 2 10 (.bipush 19) := ⟨by decide +kernel, rfl⟩
set_option maxRecDepth 100000 in
theorem ii_la_law_10 : sm_D code 10 2 12 (.newarray .int) := ⟨by decide +kernel, rfl⟩
set_option maxRecDepth 100000 in
theorem ii_la_law_12 : sm_D code 12 1 13 (.astore_n 2) := ⟨by decide +kernel, rfl⟩
set_option maxRecDepth 100000 in
theorem ii_la_law_13 : sm_D code 13 2 15 (.bipush 31) := ⟨by decide +kernel, rfl⟩
set_option maxRecDepth 100000 in
theorem ii_la_law_15 : sm_D code 15 2 17 (.newarray .int) := ⟨by decide +kernel, rfl⟩
set_option maxRecDepth 100000 in
theorem ii_la_law_17 : sm_D code 17 1 18 (.astore_n 3) := ⟨by decide +kernel, rfl⟩
set_option maxRecDepth 100000 in
theorem ii_la_law_18 : sm_D code 18 2 20 (.bipush 8) := ⟨by decide +kernel, rfl⟩
set_option maxRecDepth 100000 in
theorem ii_la_law_20 : sm_D code 20 2 22 (.newarray .int) := ⟨by decide +kernel, rfl⟩
set_option maxRecDepth 100000 in
theorem ii_la_law_22 : sm_D code 22 2 24 (.astore 4) := ⟨by decide +kernel, rfl⟩
set_option maxHeartbeats 40000000 in
set_option maxRecDepth 100000 in
theorem mk_rw_init_0 : sm_MK mi_rw_init [.ref 0, .int (40)] (.inl (2, [.null, .int (0)])) [.inl (2, [.ref 1, .int (-9)]), sn_z 40] [0] 1 40 := by
  refine sm_MK_of (L0 := [some (.ref 0), some (.int (40))]) (by decide +kernel) rfl rfl rfl (Nat.le_of_ble_eq_true rfl) ?_
  refine sn_aload_n ii_rw_init_0 rfl ?_
  refine sn_obj ii_rw_init_1 cq_ob_rw_3 cq_obi cq_obc (by decide) rfl ?_
  refine sn_aload_n ii_rw_init_4 rfl ?_
  refine sn_iload_n ii_rw_init_5 rfl ?_
  refine sn_iconst (0) ii_rw_init_6 (by decide) ?_
  refine sn_max (40) ii_rw_init_7 cq_rw_9 mq_st_max mq_in mq_co_max (by decide) rfl (by decide) (by decide) ?_
  refine sn_newa (N := 40) ii_rw_init_10 (by decide) (by decide) (by decide) rfl (by decide) cq_arr ?_
  refine sn_ch [.inl (2, [.null, .int (0)]), sn_z 40] [.ref 1, .ref 0] [0] 1 40 rfl rfl rfl rfl rfl ?_
  refine sn_put [.inl (2, [.ref 1, .int (0)]), sn_z 40] ii_rw_init_12 fc_rw_15 rfl rfl rfl (fun _ => rfl) (fun _ => rfl) rfl ?_
  refine sn_aload_n ii_rw_init_15 rfl ?_
  refine sn_bipush (-9) ii_rw_init_16 (by decide) ?_
  refine sn_put [.inl (2, [.ref 1, .int (-9)]), sn_z 40] ii_rw_init_18 fc_rw_21 rfl rfl rfl (fun _ => rfl) (fun _ => rfl) rfl ?_
  exact sn_end ⟨ii_rw_init_21.1, rfl⟩ rfl rfl rfl ⟨[0], rfl⟩
set_option maxHeartbeats 40000000 in
set_option maxRecDepth 100000 in
theorem mk_rw_init_1 : sm_MK mi_rw_init [.ref 0, .int (60)] (.inl (2, [.null, .int (0)])) [.inl (2, [.ref 1, .int (-9)]), sn_z 60] [0] 1 60 := by
  refine sm_MK_of (L0 := [some (.ref 0), some (.int (60))]) (by decide +kernel) rfl rfl rfl (Nat.le_of_ble_eq_true rfl) ?_
  refine sn_aload_n ii_rw_init_0 rfl ?_
  refine sn_obj ii_rw_init_1 cq_ob_rw_3 cq_obi cq_obc (by decide) rfl ?_
  refine sn_aload_n ii_rw_init_4 rfl ?_
  refine sn_iload_n ii_rw_init_5 rfl ?_
  refine sn_iconst (0) ii_rw_init_6 (by decide) ?_
  refine sn_max (60) ii_rw_init_7 cq_rw_9 mq_st_max mq_in mq_co_max (by decide) rfl (by decide) (by decide) ?_
  refine sn_newa (N := 60) ii_rw_init_10 (by decide) (by decide) (by decide) rfl (by decide) cq_arr ?_
  refine sn_ch [.inl (2, [.null, .int (0)]), sn_z 60] [.ref 1, .ref 0] [0] 1 60 rfl rfl rfl rfl rfl ?_
  refine sn_put [.inl (2, [.ref 1, .int (0)]), sn_z 60] ii_rw_init_12 fc_rw_15 rfl rfl rfl (fun _ => rfl) (fun _ => rfl) rfl ?_
  refine sn_aload_n ii_rw_init_15 rfl ?_
  refine sn_bipush (-9) ii_rw_init_16 (by decide) ?_
  refine sn_put [.inl (2, [.ref 1, .int (-9)]), sn_z 60] ii_rw_init_18 fc_rw_21 rfl rfl rfl (fun _ => rfl) (fun _ => rfl) rfl ?_
  exact sn_end ⟨ii_rw_init_21.1, rfl⟩ rfl rfl rfl ⟨[0], rfl⟩
set_option maxHeartbeats 40000000 in
set_option maxRecDepth 100000 in
theorem mk_de_init_2 : sm_MK mi_de_init [.ref 0, .int (-9)] (.inl (0, [.null, .null, .null, .int (0)])) [.inl (0, [.ref 1, .ref 2, .ref 3, .int (-9)]), sn_z 40, sn_z 40, sn_z 40] [0] 3 120 := by
  refine sm_MK_of (L0 := [some (.ref 0), some (.int (-9))]) (by decide +kernel) rfl rfl rfl (Nat.le_of_ble_eq_true rfl) ?_
  refine sn_aload_n ii_de_init_0 rfl ?_
  refine sn_obj ii_de_init_1 cq_ob_de_3 cq_obi cq_obc (by decide) rfl ?_
  refine sn_aload_n ii_de_init_4 rfl ?_
  refine sn_bipush (40) ii_de_init_5 (by decide) ?_
  refine sn_newa (N := 40) ii_de_init_7 (by decide) (by decide) (by decide) rfl (by decide) cq_arr ?_
  refine sn_ch [.inl (0, [.null, .null, .null, .int (0)]), sn_z 40] [.ref 1, .ref 0] [0] 1 40 rfl rfl rfl rfl rfl ?_
  refine sn_put [.inl (0, [.ref 1, .null, .null, .int (0)]), sn_z 40] ii_de_init_9 fc_de_9 rfl rfl rfl (fun _ => rfl) (fun _ => rfl) rfl ?_
  refine sn_aload_n ii_de_init_12 rfl ?_
  refine sn_bipush (40) ii_de_init_13 (by decide) ?_
  refine sn_newa (N := 40) ii_de_init_15 (by decide) (by decide) (by decide) rfl (by decide) cq_arr ?_
  refine sn_ch [.inl (0, [.ref 1, .null, .null, .int (0)]), sn_z 40, sn_z 40] [.ref 2, .ref 0] [0, 0] 2 80 rfl rfl rfl rfl rfl ?_
  refine sn_put [.inl (0, [.ref 1, .ref 2, .null, .int (0)]), sn_z 40, sn_z 40] ii_de_init_17 fc_de_15 rfl rfl rfl (fun _ => rfl) (fun _ => rfl) rfl ?_
  refine sn_aload_n ii_de_init_20 rfl ?_
  refine sn_bipush (40) ii_de_init_21 (by decide) ?_
  refine sn_newa (N := 40) ii_de_init_23 (by decide) (by decide) (by decide) rfl (by decide) cq_arr ?_
  refine sn_ch [.inl (0, [.ref 1, .ref 2, .null, .int (0)]), sn_z 40, sn_z 40, sn_z 40] [.ref 3, .ref 0] [0, 0, 0] 3 120 rfl rfl rfl rfl rfl ?_
  refine sn_put [.inl (0, [.ref 1, .ref 2, .ref 3, .int (0)]), sn_z 40, sn_z 40, sn_z 40] ii_de_init_25 fc_de_18 rfl rfl rfl (fun _ => rfl) (fun _ => rfl) rfl ?_
  refine sn_aload_n ii_de_init_28 rfl ?_
  refine sn_iload_n ii_de_init_29 rfl ?_
  refine sn_put [.inl (0, [.ref 1, .ref 2, .ref 3, .int (-9)]), sn_z 40, sn_z 40, sn_z 40] ii_de_init_30 fc_de_21 rfl rfl rfl (fun _ => rfl) (fun _ => rfl) rfl ?_
  exact sn_end ⟨ii_de_init_33.1, rfl⟩ rfl rfl rfl ⟨[0], rfl⟩
set_option maxHeartbeats 40000000 in
set_option maxRecDepth 100000 in
theorem mk_de_init_3 : sm_MK mi_de_init [.ref 0, .int (0)] (.inl (0, [.null, .null, .null, .int (0)])) [.inl (0, [.ref 1, .ref 2, .ref 3, .int (0)]), sn_z 40, sn_z 40, sn_z 40] [0] 3 120 := by
  refine sm_MK_of (L0 := [some (.ref 0), some (.int (0))]) (by decide +kernel) rfl rfl rfl (Nat.le_of_ble_eq_true rfl) ?_
  refine sn_aload_n ii_de_init_0 rfl ?_
  refine sn_obj ii_de_init_1 cq_ob_de_3 cq_obi cq_obc (by decide) rfl ?_
  refine sn_aload_n ii_de_init_4 rfl ?_
  refine sn_bipush (40) ii_de_init_5 (by decide) ?_
  refine sn_newa (N := 40) ii_de_init_7 (by decide) (by decide) (by decide) rfl (by decide) cq_arr ?_
  refine sn_ch [.inl (0, [.null, .null, .null, .int (0)]), sn_z 40] [.ref 1, .ref 0] [0] 1 40 rfl rfl rfl rfl rfl ?_
  refine sn_put [.inl (0, [.ref 1, .null, .null, .int (0)]), sn_z 40] ii_de_init_9 fc_de_9 rfl rfl rfl (fun _ => rfl) (fun _ => rfl) rfl ?_
  refine sn_aload_n ii_de_init_12 rfl ?_
  refine sn_bipush (40) ii_de_init_13 (by decide) ?_
  refine sn_newa (N := 40) ii_de_init_15 (by decide) (by decide) (by decide) rfl (by decide) cq_arr ?_
  refine sn_ch [.inl (0, [.ref 1, .null, .null, .int (0)]), sn_z 40, sn_z 40] [.ref 2, .ref 0] [0, 0] 2 80 rfl rfl rfl rfl rfl ?_
  refine sn_put [.inl (0, [.ref 1, .ref 2, .null, .int (0)]), sn_z 40, sn_z 40] ii_de_init_17 fc_de_15 rfl rfl rfl (fun _ => rfl) (fun _ => rfl) rfl ?_
  refine sn_aload_n ii_de_init_20 rfl ?_
  refine sn_bipush (40) ii_de_init_21 (by decide) ?_
  refine sn_newa (N := 40) ii_de_init_23 (by decide) (by decide) (by decide) rfl (by decide) cq_arr ?_
  refine sn_ch [.inl (0, [.ref 1, .ref 2, .null, .int (0)]), sn_z 40, sn_z 40, sn_z 40] [.ref 3, .ref 0] [0, 0, 0] 3 120 rfl rfl rfl rfl rfl ?_
  refine sn_put [.inl (0, [.ref 1, .ref 2, .ref 3, .int (0)]), sn_z 40, sn_z 40, sn_z 40] ii_de_init_25 fc_de_18 rfl rfl rfl (fun _ => rfl) (fun _ => rfl) rfl ?_
  refine sn_aload_n ii_de_init_28 rfl ?_
  refine sn_iload_n ii_de_init_29 rfl ?_
  refine sn_put [.inl (0, [.ref 1, .ref 2, .ref 3, .int (0)]), sn_z 40, sn_z 40, sn_z 40] ii_de_init_30 fc_de_21 rfl rfl rfl (fun _ => rfl) (fun _ => rfl) rfl ?_
  exact sn_end ⟨ii_de_init_33.1, rfl⟩ rfl rfl rfl ⟨[0], rfl⟩
set_option maxHeartbeats 40000000 in
set_option maxRecDepth 100000 in
theorem mk_hs_init_4 : sm_MK mi_hs_init [.ref 0] (.inl (1, [.int (0), .null, .null, .null, .null, .null, .null, .int (0), .int (0), .null, .null, .int (0), .null])) [.inl (1, [.int (0), .ref 1, .ref 2, .ref 3, .ref 4, .ref 5, .ref 6, .int (0), .int (0), .ref 7, .ref 8, .int (0), .ref 9]), sn_z 6, sn_z 6, sn_z 6, sn_z 6, sn_z 6, sn_z 6, sn_z 8, sn_z 8, .inl (0, [.ref 10, .ref 11, .ref 12, .int (0)]), sn_z 40, sn_z 40, sn_z 40] [0] 12 176 := by
  refine sm_MK_of (L0 := [some (.ref 0)]) (by decide +kernel) rfl rfl rfl (Nat.le_of_ble_eq_true rfl) ?_
  refine sn_aload_n ii_hs_init_0 rfl ?_
  refine sn_obj ii_hs_init_1 cq_ob_hs_3 cq_obi cq_obc (by decide) rfl ?_
  refine sn_aload_n ii_hs_init_4 rfl ?_
  refine sn_bipush (6) ii_hs_init_5 (by decide) ?_
  refine sn_newa (N := 6) ii_hs_init_7 (by decide) (by decide) (by decide) rfl (by decide) cq_arr ?_
  refine sn_ch [.inl (1, [.int (0), .null, .null, .null, .null, .null, .null, .int (0), .int (0), .null, .null, .int (0), .null]), sn_z 6] [.ref 1, .ref 0] [0] 1 6 rfl rfl rfl rfl rfl ?_
  refine sn_put [.inl (1, [.int (0), .ref 1, .null, .null, .null, .null, .null, .int (0), .int (0), .null, .null, .int (0), .null]), sn_z 6] ii_hs_init_9 fc_hs_9 rfl rfl rfl (fun _ => rfl) (fun _ => rfl) rfl ?_
  refine sn_aload_n ii_hs_init_12 rfl ?_
  refine sn_bipush (6) ii_hs_init_13 (by decide) ?_
  refine sn_newa (N := 6) ii_hs_init_15 (by decide) (by decide) (by decide) rfl (by decide) cq_arr ?_
  refine sn_ch [.inl (1, [.int (0), .ref 1, .null, .null, .null, .null, .null, .int (0), .int (0), .null, .null, .int (0), .null]), sn_z 6, sn_z 6] [.ref 2, .ref 0] [0, 0] 2 12 rfl rfl rfl rfl rfl ?_
  refine sn_put [.inl (1, [.int (0), .ref 1, .ref 2, .null, .null, .null, .null, .int (0), .int (0), .null, .null, .int (0), .null]), sn_z 6, sn_z 6] ii_hs_init_17 fc_hs_15 rfl rfl rfl (fun _ => rfl) (fun _ => rfl) rfl ?_
  refine sn_aload_n ii_hs_init_20 rfl ?_
  refine sn_bipush (6) ii_hs_init_21 (by decide) ?_
  refine sn_newa (N := 6) ii_hs_init_23 (by decide) (by decide) (by decide) rfl (by decide) cq_arr ?_
  refine sn_ch [.inl (1, [.int (0), .ref 1, .ref 2, .null, .null, .null, .null, .int (0), .int (0), .null, .null, .int (0), .null]), sn_z 6, sn_z 6, sn_z 6] [.ref 3, .ref 0] [0, 0, 0] 3 18 rfl rfl rfl rfl rfl ?_
  refine sn_put [.inl (1, [.int (0), .ref 1, .ref 2, .ref 3, .null, .null, .null, .int (0), .int (0), .null, .null, .int (0), .null]), sn_z 6, sn_z 6, sn_z 6] ii_hs_init_25 fc_hs_18 rfl rfl rfl (fun _ => rfl) (fun _ => rfl) rfl ?_
  refine sn_aload_n ii_hs_init_28 rfl ?_
  refine sn_bipush (6) ii_hs_init_29 (by decide) ?_
  refine sn_newa (N := 6) ii_hs_init_31 (by decide) (by decide) (by decide) rfl (by decide) cq_arr ?_
  refine sn_ch [.inl (1, [.int (0), .ref 1, .ref 2, .ref 3, .null, .null, .null, .int (0), .int (0), .null, .null, .int (0), .null]), sn_z 6, sn_z 6, sn_z 6, sn_z 6] [.ref 4, .ref 0] [0, 0, 0, 0] 4 24 rfl rfl rfl rfl rfl ?_
  refine sn_put [.inl (1, [.int (0), .ref 1, .ref 2, .ref 3, .ref 4, .null, .null, .int (0), .int (0), .null, .null, .int (0), .null]), sn_z 6, sn_z 6, sn_z 6, sn_z 6] ii_hs_init_33 fc_hs_21 rfl rfl rfl (fun _ => rfl) (fun _ => rfl) rfl ?_
  refine sn_aload_n ii_hs_init_36 rfl ?_
  refine sn_bipush (6) ii_hs_init_37 (by decide) ?_
  refine sn_newa (N := 6) ii_hs_init_39 (by decide) (by decide) (by decide) rfl (by decide) cq_arr ?_
  refine sn_ch [.inl (1, [.int (0), .ref 1, .ref 2, .ref 3, .ref 4, .null, .null, .int (0), .int (0), .null, .null, .int (0), .null]), sn_z 6, sn_z 6, sn_z 6, sn_z 6, sn_z 6] [.ref 5, .ref 0] [0, 0, 0, 0, 0] 5 30 rfl rfl rfl rfl rfl ?_
  refine sn_put [.inl (1, [.int (0), .ref 1, .ref 2, .ref 3, .ref 4, .ref 5, .null, .int (0), .int (0), .null, .null, .int (0), .null]), sn_z 6, sn_z 6, sn_z 6, sn_z 6, sn_z 6] ii_hs_init_41 fc_hs_24 rfl rfl rfl (fun _ => rfl) (fun _ => rfl) rfl ?_
  refine sn_aload_n ii_hs_init_44 rfl ?_
  refine sn_bipush (6) ii_hs_init_45 (by decide) ?_
  refine sn_newa (N := 6) ii_hs_init_47 (by decide) (by decide) (by decide) rfl (by decide) cq_arr ?_
  refine sn_ch [.inl (1, [.int (0), .ref 1, .ref 2, .ref 3, .ref 4, .ref 5, .null, .int (0), .int (0), .null, .null, .int (0), .null]), sn_z 6, sn_z 6, sn_z 6, sn_z 6, sn_z 6, sn_z 6] [.ref 6, .ref 0] [0, 0, 0, 0, 0, 0] 6 36 rfl rfl rfl rfl rfl ?_
  refine sn_put [.inl (1, [.int (0), .ref 1, .ref 2, .ref 3, .ref 4, .ref 5, .ref 6, .int (0), .int (0), .null, .null, .int (0), .null]), sn_z 6, sn_z 6, sn_z 6, sn_z 6, sn_z 6, sn_z 6] ii_hs_init_49 fc_hs_27 rfl rfl rfl (fun _ => rfl) (fun _ => rfl) rfl ?_
  refine sn_aload_n ii_hs_init_52 rfl ?_
  refine sn_bipush (8) ii_hs_init_53 (by decide) ?_
  refine sn_newa (N := 8) ii_hs_init_55 (by decide) (by decide) (by decide) rfl (by decide) cq_arr ?_
  refine sn_ch [.inl (1, [.int (0), .ref 1, .ref 2, .ref 3, .ref 4, .ref 5, .ref 6, .int (0), .int (0), .null, .null, .int (0), .null]), sn_z 6, sn_z 6, sn_z 6, sn_z 6, sn_z 6, sn_z 6, sn_z 8] [.ref 7, .ref 0] [0, 0, 0, 0, 0, 0, 0] 7 44 rfl rfl rfl rfl rfl ?_
  refine sn_put [.inl (1, [.int (0), .ref 1, .ref 2, .ref 3, .ref 4, .ref 5, .ref 6, .int (0), .int (0), .ref 7, .null, .int (0), .null]), sn_z 6, sn_z 6, sn_z 6, sn_z 6, sn_z 6, sn_z 6, sn_z 8] ii_hs_init_57 fc_hs_30 rfl rfl rfl (fun _ => rfl) (fun _ => rfl) rfl ?_
  refine sn_aload_n ii_hs_init_60 rfl ?_
  refine sn_bipush (8) ii_hs_init_61 (by decide) ?_
  refine sn_newa (N := 8) ii_hs_init_63 (by decide) (by decide) (by decide) rfl (by decide) cq_arr ?_
  refine sn_ch [.inl (1, [.int (0), .ref 1, .ref 2, .ref 3, .ref 4, .ref 5, .ref 6, .int (0), .int (0), .ref 7, .null, .int (0), .null]), sn_z 6, sn_z 6, sn_z 6, sn_z 6, sn_z 6, sn_z 6, sn_z 8, sn_z 8] [.ref 8, .ref 0] [0, 0, 0, 0, 0, 0, 0, 0] 8 52 rfl rfl rfl rfl rfl ?_
  refine sn_put [.inl (1, [.int (0), .ref 1, .ref 2, .ref 3, .ref 4, .ref 5, .ref 6, .int (0), .int (0), .ref 7, .ref 8, .int (0), .null]), sn_z 6, sn_z 6, sn_z 6, sn_z 6, sn_z 6, sn_z 6, sn_z 8, sn_z 8] ii_hs_init_65 fc_hs_33 rfl rfl rfl (fun _ => rfl) (fun _ => rfl) rfl ?_
  refine sn_aload_n ii_hs_init_68 rfl ?_
  refine sn_new (ci := 0) (C := "HerOrders$Deeds") (T := TX0) (N := 4) [.null, .null, .null, .int (0)] tyX0 ii_hs_init_69 rfl sm_inX0 tyX0_ok cq_cl_hs_36 cq_in_0 cq_ini_0 (by decide) rfl rfl (by decide) ?_
  refine sn_ch [.inl (1, [.int (0), .ref 1, .ref 2, .ref 3, .ref 4, .ref 5, .ref 6, .int (0), .int (0), .ref 7, .ref 8, .int (0), .null]), sn_z 6, sn_z 6, sn_z 6, sn_z 6, sn_z 6, sn_z 6, sn_z 8, sn_z 8, .inl (0, [.null, .null, .null, .int (0)])] [.ref 9, .ref 0] [0, 0, 0, 0, 0, 0, 0, 0] 9 56 rfl rfl rfl rfl rfl ?_
  refine sn_dup ii_hs_init_72 ?_
  refine sn_iconst (0) ii_hs_init_73 (by decide) ?_
  refine sn_call (Wp := [.inl (1, [.int (0), .ref 1, .ref 2, .ref 3, .ref 4, .ref 5, .ref 6, .int (0), .int (0), .ref 7, .ref 8, .int (0), .null]), sn_z 6, sn_z 6, sn_z 6, sn_z 6, sn_z 6, sn_z 6, sn_z 8, sn_z 8]) (o1 := .inl (0, [.null, .null, .null, .int (0)])) (m2 := 4) 9 0 [.int (0)] [.int (0)] [.ref 9, .ref 0] [.inl (0, [.ref 10, .ref 11, .ref 12, .int (0)]), sn_z 40, sn_z 40, sn_z 40] rfl rfl ii_hs_init_74 ml_hs_38 mf_de_init mh_de_init rfl rfl (Nat.le_of_ble_eq_true rfl) rfl rfl rfl mk_de_init_3 (fun _ => rfl) (fun _ _ => rfl) rfl (fun _ _ _ => rfl) (by decide) (by decide) rfl rfl rfl rfl rfl (by decide) ?_
  refine sn_ch [.inl (1, [.int (0), .ref 1, .ref 2, .ref 3, .ref 4, .ref 5, .ref 6, .int (0), .int (0), .ref 7, .ref 8, .int (0), .null]), sn_z 6, sn_z 6, sn_z 6, sn_z 6, sn_z 6, sn_z 6, sn_z 8, sn_z 8, .inl (0, [.ref 10, .ref 11, .ref 12, .int (0)]), sn_z 40, sn_z 40, sn_z 40] [.ref 9, .ref 0] [0, 0, 0, 0, 0, 0, 0, 0, 0] 12 176 rfl rfl rfl rfl rfl ?_
  refine sn_put [.inl (1, [.int (0), .ref 1, .ref 2, .ref 3, .ref 4, .ref 5, .ref 6, .int (0), .int (0), .ref 7, .ref 8, .int (0), .ref 9]), sn_z 6, sn_z 6, sn_z 6, sn_z 6, sn_z 6, sn_z 6, sn_z 8, sn_z 8, .inl (0, [.ref 10, .ref 11, .ref 12, .int (0)]), sn_z 40, sn_z 40, sn_z 40] ii_hs_init_77 fc_hs_41 rfl rfl rfl (fun _ => rfl) (fun _ => rfl) rfl ?_
  exact sn_end ⟨ii_hs_init_80.1, rfl⟩ rfl rfl rfl ⟨[0], rfl⟩
set_option maxHeartbeats 40000000 in
set_option maxRecDepth 100000 in
theorem mk_wy_init_5 : sm_MK mi_wy_init [.ref 0, .ref 900] (.inl (5, [.null, .null, .null, .int (0), .null, .null, .null, .null, .int (0), .int (0), .int (0), .int (0), .int (0), .int (0)])) [.inl (5, [.ref 900, .ref 1, .ref 2, .int (0), .ref 3, .ref 4, .ref 5, .ref 6, .int (0), .int (0), .int (0), .int (0), .int (0), .int (0)]), sn_z 5, sn_z 5, sn_z 5, sn_z 6, sn_z 64, sn_z 5] [0] 6 90 := by
  refine sm_MK_of (L0 := [some (.ref 0), some (.ref 900)]) (by decide +kernel) rfl rfl rfl (Nat.le_of_ble_eq_true rfl) ?_
  refine sn_aload_n ii_wy_init_0 rfl ?_
  refine sn_obj ii_wy_init_1 cq_ob_wy_3 cq_obi cq_obc (by decide) rfl ?_
  refine sn_aload_n ii_wy_init_4 rfl ?_
  refine sn_aload_n ii_wy_init_5 rfl ?_
  refine sn_put [.inl (5, [.ref 900, .null, .null, .int (0), .null, .null, .null, .null, .int (0), .int (0), .int (0), .int (0), .int (0), .int (0)])] ii_wy_init_6 fc_wy_9 rfl rfl rfl (fun _ => rfl) (fun _ => rfl) rfl ?_
  refine sn_aload_n ii_wy_init_9 rfl ?_
  refine sn_iconst (5) ii_wy_init_10 (by decide) ?_
  refine sn_newa (N := 5) ii_wy_init_11 (by decide) (by decide) (by decide) rfl (by decide) cq_arr ?_
  refine sn_ch [.inl (5, [.ref 900, .null, .null, .int (0), .null, .null, .null, .null, .int (0), .int (0), .int (0), .int (0), .int (0), .int (0)]), sn_z 5] [.ref 1, .ref 0] [0] 1 5 rfl rfl rfl rfl rfl ?_
  refine sn_put [.inl (5, [.ref 900, .ref 1, .null, .int (0), .null, .null, .null, .null, .int (0), .int (0), .int (0), .int (0), .int (0), .int (0)]), sn_z 5] ii_wy_init_13 fc_wy_15 rfl rfl rfl (fun _ => rfl) (fun _ => rfl) rfl ?_
  refine sn_aload_n ii_wy_init_16 rfl ?_
  refine sn_iconst (5) ii_wy_init_17 (by decide) ?_
  refine sn_newa (N := 5) ii_wy_init_18 (by decide) (by decide) (by decide) rfl (by decide) cq_arr ?_
  refine sn_ch [.inl (5, [.ref 900, .ref 1, .null, .int (0), .null, .null, .null, .null, .int (0), .int (0), .int (0), .int (0), .int (0), .int (0)]), sn_z 5, sn_z 5] [.ref 2, .ref 0] [0, 0] 2 10 rfl rfl rfl rfl rfl ?_
  refine sn_put [.inl (5, [.ref 900, .ref 1, .ref 2, .int (0), .null, .null, .null, .null, .int (0), .int (0), .int (0), .int (0), .int (0), .int (0)]), sn_z 5, sn_z 5] ii_wy_init_20 fc_wy_19 rfl rfl rfl (fun _ => rfl) (fun _ => rfl) rfl ?_
  refine sn_aload_n ii_wy_init_23 rfl ?_
  refine sn_iconst (5) ii_wy_init_24 (by decide) ?_
  refine sn_newa (N := 5) ii_wy_init_25 (by decide) (by decide) (by decide) rfl (by decide) cq_arr ?_
  refine sn_ch [.inl (5, [.ref 900, .ref 1, .ref 2, .int (0), .null, .null, .null, .null, .int (0), .int (0), .int (0), .int (0), .int (0), .int (0)]), sn_z 5, sn_z 5, sn_z 5] [.ref 3, .ref 0] [0, 0, 0] 3 15 rfl rfl rfl rfl rfl ?_
  refine sn_put [.inl (5, [.ref 900, .ref 1, .ref 2, .int (0), .ref 3, .null, .null, .null, .int (0), .int (0), .int (0), .int (0), .int (0), .int (0)]), sn_z 5, sn_z 5, sn_z 5] ii_wy_init_27 fc_wy_22 rfl rfl rfl (fun _ => rfl) (fun _ => rfl) rfl ?_
  refine sn_aload_n ii_wy_init_30 rfl ?_
  refine sn_bipush (6) ii_wy_init_31 (by decide) ?_
  refine sn_newa (N := 6) ii_wy_init_33 (by decide) (by decide) (by decide) rfl (by decide) cq_arr ?_
  refine sn_ch [.inl (5, [.ref 900, .ref 1, .ref 2, .int (0), .ref 3, .null, .null, .null, .int (0), .int (0), .int (0), .int (0), .int (0), .int (0)]), sn_z 5, sn_z 5, sn_z 5, sn_z 6] [.ref 4, .ref 0] [0, 0, 0, 0] 4 21 rfl rfl rfl rfl rfl ?_
  refine sn_put [.inl (5, [.ref 900, .ref 1, .ref 2, .int (0), .ref 3, .ref 4, .null, .null, .int (0), .int (0), .int (0), .int (0), .int (0), .int (0)]), sn_z 5, sn_z 5, sn_z 5, sn_z 6] ii_wy_init_35 fc_wy_25 rfl rfl rfl (fun _ => rfl) (fun _ => rfl) rfl ?_
  refine sn_aload_n ii_wy_init_38 rfl ?_
  refine sn_bipush (64) ii_wy_init_39 (by decide) ?_
  refine sn_newa (N := 64) ii_wy_init_41 (by decide) (by decide) (by decide) rfl (by decide) cq_arr ?_
  refine sn_ch [.inl (5, [.ref 900, .ref 1, .ref 2, .int (0), .ref 3, .ref 4, .null, .null, .int (0), .int (0), .int (0), .int (0), .int (0), .int (0)]), sn_z 5, sn_z 5, sn_z 5, sn_z 6, sn_z 64] [.ref 5, .ref 0] [0, 0, 0, 0, 0] 5 85 rfl rfl rfl rfl rfl ?_
  refine sn_put [.inl (5, [.ref 900, .ref 1, .ref 2, .int (0), .ref 3, .ref 4, .ref 5, .null, .int (0), .int (0), .int (0), .int (0), .int (0), .int (0)]), sn_z 5, sn_z 5, sn_z 5, sn_z 6, sn_z 64] ii_wy_init_43 fc_wy_28 rfl rfl rfl (fun _ => rfl) (fun _ => rfl) rfl ?_
  refine sn_aload_n ii_wy_init_46 rfl ?_
  refine sn_iconst (5) ii_wy_init_47 (by decide) ?_
  refine sn_newa (N := 5) ii_wy_init_48 (by decide) (by decide) (by decide) rfl (by decide) cq_arr ?_
  refine sn_ch [.inl (5, [.ref 900, .ref 1, .ref 2, .int (0), .ref 3, .ref 4, .ref 5, .null, .int (0), .int (0), .int (0), .int (0), .int (0), .int (0)]), sn_z 5, sn_z 5, sn_z 5, sn_z 6, sn_z 64, sn_z 5] [.ref 6, .ref 0] [0, 0, 0, 0, 0, 0] 6 90 rfl rfl rfl rfl rfl ?_
  refine sn_put [.inl (5, [.ref 900, .ref 1, .ref 2, .int (0), .ref 3, .ref 4, .ref 5, .ref 6, .int (0), .int (0), .int (0), .int (0), .int (0), .int (0)]), sn_z 5, sn_z 5, sn_z 5, sn_z 6, sn_z 64, sn_z 5] ii_wy_init_50 fc_wy_31 rfl rfl rfl (fun _ => rfl) (fun _ => rfl) rfl ?_
  exact sn_end ⟨ii_wy_init_53.1, rfl⟩ rfl rfl rfl ⟨[0], rfl⟩
set_option maxHeartbeats 40000000 in
set_option maxRecDepth 100000 in
theorem mk_tr_init_6 : sm_MK mi_tr_init [.ref 0, .ref 900] (.inl (4, [.null, .null, .null, .int (0), .null])) [.inl (4, [.ref 900, .ref 1, .ref 2, .int (0), .ref 3]), sn_z 4, sn_z 4, sn_z 9] [0] 3 17 := by
  refine sm_MK_of (L0 := [some (.ref 0), some (.ref 900)]) (by decide +kernel) rfl rfl rfl (Nat.le_of_ble_eq_true rfl) ?_
  refine sn_aload_n ii_tr_init_0 rfl ?_
  refine sn_obj ii_tr_init_1 cq_ob_tr_3 cq_obi cq_obc (by decide) rfl ?_
  refine sn_aload_n ii_tr_init_4 rfl ?_
  refine sn_aload_n ii_tr_init_5 rfl ?_
  refine sn_put [.inl (4, [.ref 900, .null, .null, .int (0), .null])] ii_tr_init_6 fc_tr_9 rfl rfl rfl (fun _ => rfl) (fun _ => rfl) rfl ?_
  refine sn_aload_n ii_tr_init_9 rfl ?_
  refine sn_iconst (4) ii_tr_init_10 (by decide) ?_
  refine sn_newa (N := 4) ii_tr_init_11 (by decide) (by decide) (by decide) rfl (by decide) cq_arr ?_
  refine sn_ch [.inl (4, [.ref 900, .null, .null, .int (0), .null]), sn_z 4] [.ref 1, .ref 0] [0] 1 4 rfl rfl rfl rfl rfl ?_
  refine sn_put [.inl (4, [.ref 900, .ref 1, .null, .int (0), .null]), sn_z 4] ii_tr_init_13 fc_tr_15 rfl rfl rfl (fun _ => rfl) (fun _ => rfl) rfl ?_
  refine sn_aload_n ii_tr_init_16 rfl ?_
  refine sn_iconst (4) ii_tr_init_17 (by decide) ?_
  refine sn_newa (N := 4) ii_tr_init_18 (by decide) (by decide) (by decide) rfl (by decide) cq_arr ?_
  refine sn_ch [.inl (4, [.ref 900, .ref 1, .null, .int (0), .null]), sn_z 4, sn_z 4] [.ref 2, .ref 0] [0, 0] 2 8 rfl rfl rfl rfl rfl ?_
  refine sn_put [.inl (4, [.ref 900, .ref 1, .ref 2, .int (0), .null]), sn_z 4, sn_z 4] ii_tr_init_20 fc_tr_19 rfl rfl rfl (fun _ => rfl) (fun _ => rfl) rfl ?_
  refine sn_aload_n ii_tr_init_23 rfl ?_
  refine sn_bipush (9) ii_tr_init_24 (by decide) ?_
  refine sn_newa (N := 9) ii_tr_init_26 (by decide) (by decide) (by decide) rfl (by decide) cq_arr ?_
  refine sn_ch [.inl (4, [.ref 900, .ref 1, .ref 2, .int (0), .null]), sn_z 4, sn_z 4, sn_z 9] [.ref 3, .ref 0] [0, 0, 0] 3 17 rfl rfl rfl rfl rfl ?_
  refine sn_put [.inl (4, [.ref 900, .ref 1, .ref 2, .int (0), .ref 3]), sn_z 4, sn_z 4, sn_z 9] ii_tr_init_28 fc_tr_22 rfl rfl rfl (fun _ => rfl) (fun _ => rfl) rfl ?_
  exact sn_end ⟨ii_tr_init_31.1, rfl⟩ rfl rfl rfl ⟨[0], rfl⟩
set_option maxHeartbeats 40000000 in
set_option maxRecDepth 100000 in
theorem mk_td_init_7 : sm_MK mi_td_init [.ref 0] (.inl (3, [.int (0), .long (0), .long (0), .int (0), .null])) [.inl (3, [.int (0), .long (0), .long (1), .int (0), .ref 1]), sn_z 6] [0] 1 6 := by
  refine sm_MK_of (L0 := [some (.ref 0)]) (by decide +kernel) rfl rfl rfl (Nat.le_of_ble_eq_true rfl) ?_
  refine sn_aload_n ii_td_init_0 rfl ?_
  refine sn_obj ii_td_init_1 cq_ob_td_3 cq_obi cq_obc (by decide) rfl ?_
  refine sn_aload_n ii_td_init_4 rfl ?_
  refine sn_lconst (1) ii_td_init_5 (by decide) ?_
  refine sn_put [.inl (3, [.int (0), .long (0), .long (1), .int (0), .null])] ii_td_init_6 fc_td_9 rfl rfl rfl (fun _ => rfl) (fun _ => rfl) rfl ?_
  refine sn_aload_n ii_td_init_9 rfl ?_
  refine sn_bipush (6) ii_td_init_10 (by decide) ?_
  refine sn_newa (N := 6) ii_td_init_12 (by decide) (by decide) (by decide) rfl (by decide) cq_arr ?_
  refine sn_ch [.inl (3, [.int (0), .long (0), .long (1), .int (0), .null]), sn_z 6] [.ref 1, .ref 0] [0] 1 6 rfl rfl rfl rfl rfl ?_
  refine sn_put [.inl (3, [.int (0), .long (0), .long (1), .int (0), .ref 1]), sn_z 6] ii_td_init_14 fc_td_15 rfl rfl rfl (fun _ => rfl) (fun _ => rfl) rfl ?_
  exact sn_end ⟨ii_td_init_17.1, rfl⟩ rfl rfl rfl ⟨[0], rfl⟩
set_option maxHeartbeats 40000000 in
set_option maxRecDepth 100000 in
theorem mk_ho_init_8 : sm_MK mi_ho_init [.ref 0] (.inl (6, [.null, .null, .null, .null, .null, .null, .null])) ((.inl (6, [.ref 1, .ref 14, .ref 36, .ref 23, .ref 49, .ref 56, .ref 60])) :: (.inr (.inr (1, [some 2, some 4, some 6, some 8, some 10, some 12]))) :: (.inl (2, [.ref 3, .int (-9)])) :: (sn_z 40) :: (.inl (2, [.ref 5, .int (-9)])) :: (sn_z 40) :: (.inl (2, [.ref 7, .int (-9)])) :: (sn_z 40) :: (.inl (2, [.ref 9, .int (-9)])) :: (sn_z 40) :: (.inl (2, [.ref 11, .int (-9)])) :: (sn_z 40) :: (.inl (2, [.ref 13, .int (-9)])) :: (sn_z 40) :: (.inr (.inr (1, [some 15, some 17, some 19, some 21]))) :: (.inl (2, [.ref 16, .int (-9)])) :: (sn_z 60) :: (.inl (2, [.ref 18, .int (-9)])) :: (sn_z 60) :: (.inl (2, [.ref 20, .int (-9)])) :: (sn_z 60) :: (.inl (2, [.ref 22, .int (-9)])) :: (sn_z 60) :: (.inr (.inr (2, [some 24, some 28, some 32]))) :: (.inl (0, [.ref 25, .ref 26, .ref 27, .int (-9)])) :: (sn_z 40) :: (sn_z 40) :: (sn_z 40) :: (.inl (0, [.ref 29, .ref 30, .ref 31, .int (-9)])) :: (sn_z 40) :: (sn_z 40) :: (sn_z 40) :: (.inl (0, [.ref 33, .ref 34, .ref 35, .int (-9)])) :: (sn_z 40) :: (sn_z 40) :: (sn_z 40) :: (.inl (1, [.int (0), .ref 37, .ref 38, .ref 39, .ref 40, .ref 41, .ref 42, .int (0), .int (0), .ref 43, .ref 44, .int (0), .ref 45])) :: (sn_z 6) :: (sn_z 6) :: (sn_z 6) :: (sn_z 6) :: (sn_z 6) :: (sn_z 6) :: (sn_z 8) :: (sn_z 8) :: (.inl (0, [.ref 46, .ref 47, .ref 48, .int (0)])) :: (sn_z 40) :: (sn_z 40) :: (sn_z 40) :: (.inl (5, [.ref 36, .ref 50, .ref 51, .int (0), .ref 52, .ref 53, .ref 54, .ref 55, .int (0), .int (0), .int (0), .int (0), .int (0), .int (0)])) :: (sn_z 5) :: (sn_z 5) :: (sn_z 5) :: (sn_z 6) :: (sn_z 64) :: (sn_z 5) :: (.inl (4, [.ref 36, .ref 57, .ref 58, .int (0), .ref 59])) :: (sn_z 4) :: (sn_z 4) :: (sn_z 9) :: (.inl (3, [.int (0), .long (0), .long (1), .int (0), .ref 61])) :: (sn_z 6) :: []) [0, 1, 2] 61 1211 := by
  refine sm_MK_of (L0 := [some (.ref 0), none]) (by decide +kernel) rfl rfl rfl (Nat.le_of_ble_eq_true rfl) ?_
  refine sn_aload_n ii_ho_init_0 rfl ?_
  refine sn_obj ii_ho_init_1 cq_ob_ho_1 cq_obi cq_obc (by decide) rfl ?_
  refine sn_aload_n ii_ho_init_4 rfl ?_
  refine sn_bipush (6) ii_ho_init_5 (by decide) ?_
  refine sn_newq (t := 1) (C := "HerOrders$Row") (N := 6) ii_ho_init_7 cq_cl_ho_9 cq_ov_1 rfl (by decide) (by decide) (by decide) rfl (by decide) ?_
  refine sn_ch [.inl (6, [.null, .null, .null, .null, .null, .null, .null]), .inr (.inr (1, [none, none, none, none, none, none]))] [.ref 1, .ref 0] [1] 1 6 rfl rfl rfl rfl rfl ?_
  refine sn_put [.inl (6, [.ref 1, .null, .null, .null, .null, .null, .null]), .inr (.inr (1, [none, none, none, none, none, none]))] ii_ho_init_10 fc_ho_11 rfl rfl rfl (fun _ => rfl) (fun _ => rfl) rfl ?_
  refine sn_iconst (0) ii_ho_init_13 (by decide) ?_
  refine sn_istore_n [some (.ref 0), some (.int (0))] ii_ho_init_14 rfl rfl ?_
  refine sn_iload_n ii_ho_init_15 rfl ?_
  refine sn_bipush (6) ii_ho_init_16 (by decide) ?_
  refine sn_ge_f 42 ii_ho_init_18 (by decide) (by decide) ?_
  refine sn_aload_n ii_ho_init_21 rfl ?_
  refine sn_getR 1 ii_ho_init_22 fl_ho_11 rfl rfl ?_
  refine sn_iload_n ii_ho_init_25 rfl ?_
  refine sn_new (ci := 2) (C := "HerOrders$Row") (T := TX2) (N := 2) [.null, .int (0)] tyX2 ii_ho_init_26 rfl sm_inX2 tyX2_ok cq_cl_ho_9 cq_in_2 cq_ini_2 (by decide) rfl rfl (by decide) ?_
  refine sn_ch [.inl (6, [.ref 1, .null, .null, .null, .null, .null, .null]), .inr (.inr (1, [none, none, none, none, none, none])), .inl (2, [.null, .int (0)])] [.ref 2, .int (0), .ref 1] [1] 2 8 rfl rfl rfl rfl rfl ?_
  refine sn_dup ii_ho_init_29 ?_
  refine sn_bipush (40) ii_ho_init_30 (by decide) ?_
  refine sn_call (Wp := [.inl (6, [.ref 1, .null, .null, .null, .null, .null, .null]), .inr (.inr (1, [none, none, none, none, none, none]))]) (o1 := .inl (2, [.null, .int (0)])) (m2 := 2) 2 0 [.int (40)] [.int (40)] [.ref 2, .int (0), .ref 1] [.inl (2, [.ref 3, .int (-9)]), sn_z 40] rfl rfl ii_ho_init_32 ml_ho_15 mf_rw_init mh_rw_init rfl rfl (Nat.le_of_ble_eq_true rfl) rfl rfl rfl mk_rw_init_0 (fun _ => rfl) (fun _ _ => rfl) rfl (fun _ _ _ => rfl) (by decide) (by decide) rfl rfl rfl rfl rfl (by decide) ?_
  refine sn_ch [.inl (6, [.ref 1, .null, .null, .null, .null, .null, .null]), .inr (.inr (1, [none, none, none, none, none, none])), .inl (2, [.ref 3, .int (-9)]), sn_z 40] [.ref 2, .int (0), .ref 1] [1, 0] 3 48 rfl rfl rfl rfl rfl ?_
  refine sn_aast (t0 := 0) [.inl (6, [.ref 1, .null, .null, .null, .null, .null, .null]), .inr (.inr (1, [some 2, none, none, none, none, none])), .inl (2, [.ref 3, .int (-9)]), sn_z 40] ii_ho_init_35 rfl rfl rfl rfl rfl (by decide) rfl ?_
  refine sn_iinc (1) [some (.ref 0), some (.int (1))] ii_ho_init_36 rfl (by decide) rfl rfl ?_
  refine sn_goto 15 ii_ho_init_39 (by decide) ?_
  refine sn_iload_n ii_ho_init_15 rfl ?_
  refine sn_bipush (6) ii_ho_init_16 (by decide) ?_
  refine sn_ge_f 42 ii_ho_init_18 (by decide) (by decide) ?_
  refine sn_aload_n ii_ho_init_21 rfl ?_
  refine sn_getR 1 ii_ho_init_22 fl_ho_11 rfl rfl ?_
  refine sn_iload_n ii_ho_init_25 rfl ?_
  refine sn_new (ci := 2) (C := "HerOrders$Row") (T := TX2) (N := 2) [.null, .int (0)] tyX2 ii_ho_init_26 rfl sm_inX2 tyX2_ok cq_cl_ho_9 cq_in_2 cq_ini_2 (by decide) rfl rfl (by decide) ?_
  refine sn_ch [.inl (6, [.ref 1, .null, .null, .null, .null, .null, .null]), .inr (.inr (1, [some 2, none, none, none, none, none])), .inl (2, [.ref 3, .int (-9)]), sn_z 40, .inl (2, [.null, .int (0)])] [.ref 4, .int (1), .ref 1] [1, 0] 4 50 rfl rfl rfl rfl rfl ?_
  refine sn_dup ii_ho_init_29 ?_
  refine sn_bipush (40) ii_ho_init_30 (by decide) ?_
  refine sn_call (Wp := [.inl (6, [.ref 1, .null, .null, .null, .null, .null, .null]), .inr (.inr (1, [some 2, none, none, none, none, none])), .inl (2, [.ref 3, .int (-9)]), sn_z 40]) (o1 := .inl (2, [.null, .int (0)])) (m2 := 2) 4 0 [.int (40)] [.int (40)] [.ref 4, .int (1), .ref 1] [.inl (2, [.ref 5, .int (-9)]), sn_z 40] rfl rfl ii_ho_init_32 ml_ho_15 mf_rw_init mh_rw_init rfl rfl (Nat.le_of_ble_eq_true rfl) rfl rfl rfl mk_rw_init_0 (fun _ => rfl) (fun _ _ => rfl) rfl (fun _ _ _ => rfl) (by decide) (by decide) rfl rfl rfl rfl rfl (by decide) ?_
  refine sn_ch [.inl (6, [.ref 1, .null, .null, .null, .null, .null, .null]), .inr (.inr (1, [some 2, none, none, none, none, none])), .inl (2, [.ref 3, .int (-9)]), sn_z 40, .inl (2, [.ref 5, .int (-9)]), sn_z 40] [.ref 4, .int (1), .ref 1] [1, 0, 0] 5 90 rfl rfl rfl rfl rfl ?_
  refine sn_aast (t0 := 0) [.inl (6, [.ref 1, .null, .null, .null, .null, .null, .null]), .inr (.inr (1, [some 2, some 4, none, none, none, none])), .inl (2, [.ref 3, .int (-9)]), sn_z 40, .inl (2, [.ref 5, .int (-9)]), sn_z 40] ii_ho_init_35 rfl rfl rfl rfl rfl (by decide) rfl ?_
  refine sn_iinc (2) [some (.ref 0), some (.int (2))] ii_ho_init_36 rfl (by decide) rfl rfl ?_
  refine sn_goto 15 ii_ho_init_39 (by decide) ?_
  refine sn_iload_n ii_ho_init_15 rfl ?_
  refine sn_bipush (6) ii_ho_init_16 (by decide) ?_
  refine sn_ge_f 42 ii_ho_init_18 (by decide) (by decide) ?_
  refine sn_aload_n ii_ho_init_21 rfl ?_
  refine sn_getR 1 ii_ho_init_22 fl_ho_11 rfl rfl ?_
  refine sn_iload_n ii_ho_init_25 rfl ?_
  refine sn_new (ci := 2) (C := "HerOrders$Row") (T := TX2) (N := 2) [.null, .int (0)] tyX2 ii_ho_init_26 rfl sm_inX2 tyX2_ok cq_cl_ho_9 cq_in_2 cq_ini_2 (by decide) rfl rfl (by decide) ?_
  refine sn_ch [.inl (6, [.ref 1, .null, .null, .null, .null, .null, .null]), .inr (.inr (1, [some 2, some 4, none, none, none, none])), .inl (2, [.ref 3, .int (-9)]), sn_z 40, .inl (2, [.ref 5, .int (-9)]), sn_z 40, .inl (2, [.null, .int (0)])] [.ref 6, .int (2), .ref 1] [1, 0, 0] 6 92 rfl rfl rfl rfl rfl ?_
  refine sn_dup ii_ho_init_29 ?_
  refine sn_bipush (40) ii_ho_init_30 (by decide) ?_
  refine sn_call (Wp := [.inl (6, [.ref 1, .null, .null, .null, .null, .null, .null]), .inr (.inr (1, [some 2, some 4, none, none, none, none])), .inl (2, [.ref 3, .int (-9)]), sn_z 40, .inl (2, [.ref 5, .int (-9)]), sn_z 40]) (o1 := .inl (2, [.null, .int (0)])) (m2 := 2) 6 0 [.int (40)] [.int (40)] [.ref 6, .int (2), .ref 1] [.inl (2, [.ref 7, .int (-9)]), sn_z 40] rfl rfl ii_ho_init_32 ml_ho_15 mf_rw_init mh_rw_init rfl rfl (Nat.le_of_ble_eq_true rfl) rfl rfl rfl mk_rw_init_0 (fun _ => rfl) (fun _ _ => rfl) rfl (fun _ _ _ => rfl) (by decide) (by decide) rfl rfl rfl rfl rfl (by decide) ?_
  refine sn_ch [.inl (6, [.ref 1, .null, .null, .null, .null, .null, .null]), .inr (.inr (1, [some 2, some 4, none, none, none, none])), .inl (2, [.ref 3, .int (-9)]), sn_z 40, .inl (2, [.ref 5, .int (-9)]), sn_z 40, .inl (2, [.ref 7, .int (-9)]), sn_z 40] [.ref 6, .int (2), .ref 1] [1, 0, 0, 0] 7 132 rfl rfl rfl rfl rfl ?_
  refine sn_aast (t0 := 0) [.inl (6, [.ref 1, .null, .null, .null, .null, .null, .null]), .inr (.inr (1, [some 2, some 4, some 6, none, none, none])), .inl (2, [.ref 3, .int (-9)]), sn_z 40, .inl (2, [.ref 5, .int (-9)]), sn_z 40, .inl (2, [.ref 7, .int (-9)]), sn_z 40] ii_ho_init_35 rfl rfl rfl rfl rfl (by decide) rfl ?_
  refine sn_iinc (3) [some (.ref 0), some (.int (3))] ii_ho_init_36 rfl (by decide) rfl rfl ?_
  refine sn_goto 15 ii_ho_init_39 (by decide) ?_
  refine sn_iload_n ii_ho_init_15 rfl ?_
  refine sn_bipush (6) ii_ho_init_16 (by decide) ?_
  refine sn_ge_f 42 ii_ho_init_18 (by decide) (by decide) ?_
  refine sn_aload_n ii_ho_init_21 rfl ?_
  refine sn_getR 1 ii_ho_init_22 fl_ho_11 rfl rfl ?_
  refine sn_iload_n ii_ho_init_25 rfl ?_
  refine sn_new (ci := 2) (C := "HerOrders$Row") (T := TX2) (N := 2) [.null, .int (0)] tyX2 ii_ho_init_26 rfl sm_inX2 tyX2_ok cq_cl_ho_9 cq_in_2 cq_ini_2 (by decide) rfl rfl (by decide) ?_
  refine sn_ch [.inl (6, [.ref 1, .null, .null, .null, .null, .null, .null]), .inr (.inr (1, [some 2, some 4, some 6, none, none, none])), .inl (2, [.ref 3, .int (-9)]), sn_z 40, .inl (2, [.ref 5, .int (-9)]), sn_z 40, .inl (2, [.ref 7, .int (-9)]), sn_z 40, .inl (2, [.null, .int (0)])] [.ref 8, .int (3), .ref 1] [1, 0, 0, 0] 8 134 rfl rfl rfl rfl rfl ?_
  refine sn_dup ii_ho_init_29 ?_
  refine sn_bipush (40) ii_ho_init_30 (by decide) ?_
  refine sn_call (Wp := [.inl (6, [.ref 1, .null, .null, .null, .null, .null, .null]), .inr (.inr (1, [some 2, some 4, some 6, none, none, none])), .inl (2, [.ref 3, .int (-9)]), sn_z 40, .inl (2, [.ref 5, .int (-9)]), sn_z 40, .inl (2, [.ref 7, .int (-9)]), sn_z 40]) (o1 := .inl (2, [.null, .int (0)])) (m2 := 2) 8 0 [.int (40)] [.int (40)] [.ref 8, .int (3), .ref 1] [.inl (2, [.ref 9, .int (-9)]), sn_z 40] rfl rfl ii_ho_init_32 ml_ho_15 mf_rw_init mh_rw_init rfl rfl (Nat.le_of_ble_eq_true rfl) rfl rfl rfl mk_rw_init_0 (fun _ => rfl) (fun _ _ => rfl) rfl (fun _ _ _ => rfl) (by decide) (by decide) rfl rfl rfl rfl rfl (by decide) ?_
  refine sn_ch [.inl (6, [.ref 1, .null, .null, .null, .null, .null, .null]), .inr (.inr (1, [some 2, some 4, some 6, none, none, none])), .inl (2, [.ref 3, .int (-9)]), sn_z 40, .inl (2, [.ref 5, .int (-9)]), sn_z 40, .inl (2, [.ref 7, .int (-9)]), sn_z 40, .inl (2, [.ref 9, .int (-9)]), sn_z 40] [.ref 8, .int (3), .ref 1] [1, 0, 0, 0, 0] 9 174 rfl rfl rfl rfl rfl ?_
  refine sn_aast (t0 := 0) [.inl (6, [.ref 1, .null, .null, .null, .null, .null, .null]), .inr (.inr (1, [some 2, some 4, some 6, some 8, none, none])), .inl (2, [.ref 3, .int (-9)]), sn_z 40, .inl (2, [.ref 5, .int (-9)]), sn_z 40, .inl (2, [.ref 7, .int (-9)]), sn_z 40, .inl (2, [.ref 9, .int (-9)]), sn_z 40] ii_ho_init_35 rfl rfl rfl rfl rfl (by decide) rfl ?_
  refine sn_iinc (4) [some (.ref 0), some (.int (4))] ii_ho_init_36 rfl (by decide) rfl rfl ?_
  refine sn_goto 15 ii_ho_init_39 (by decide) ?_
  refine sn_iload_n ii_ho_init_15 rfl ?_
  refine sn_bipush (6) ii_ho_init_16 (by decide) ?_
  refine sn_ge_f 42 ii_ho_init_18 (by decide) (by decide) ?_
  refine sn_aload_n ii_ho_init_21 rfl ?_
  refine sn_getR 1 ii_ho_init_22 fl_ho_11 rfl rfl ?_
  refine sn_iload_n ii_ho_init_25 rfl ?_
  refine sn_new (ci := 2) (C := "HerOrders$Row") (T := TX2) (N := 2) [.null, .int (0)] tyX2 ii_ho_init_26 rfl sm_inX2 tyX2_ok cq_cl_ho_9 cq_in_2 cq_ini_2 (by decide) rfl rfl (by decide) ?_
  refine sn_ch [.inl (6, [.ref 1, .null, .null, .null, .null, .null, .null]), .inr (.inr (1, [some 2, some 4, some 6, some 8, none, none])), .inl (2, [.ref 3, .int (-9)]), sn_z 40, .inl (2, [.ref 5, .int (-9)]), sn_z 40, .inl (2, [.ref 7, .int (-9)]), sn_z 40, .inl (2, [.ref 9, .int (-9)]), sn_z 40, .inl (2, [.null, .int (0)])] [.ref 10, .int (4), .ref 1] [1, 0, 0, 0, 0] 10 176 rfl rfl rfl rfl rfl ?_
  refine sn_dup ii_ho_init_29 ?_
  refine sn_bipush (40) ii_ho_init_30 (by decide) ?_
  refine sn_call (Wp := [.inl (6, [.ref 1, .null, .null, .null, .null, .null, .null]), .inr (.inr (1, [some 2, some 4, some 6, some 8, none, none])), .inl (2, [.ref 3, .int (-9)]), sn_z 40, .inl (2, [.ref 5, .int (-9)]), sn_z 40, .inl (2, [.ref 7, .int (-9)]), sn_z 40, .inl (2, [.ref 9, .int (-9)]), sn_z 40]) (o1 := .inl (2, [.null, .int (0)])) (m2 := 2) 10 0 [.int (40)] [.int (40)] [.ref 10, .int (4), .ref 1] [.inl (2, [.ref 11, .int (-9)]), sn_z 40] rfl rfl ii_ho_init_32 ml_ho_15 mf_rw_init mh_rw_init rfl rfl (Nat.le_of_ble_eq_true rfl) rfl rfl rfl mk_rw_init_0 (fun _ => rfl) (fun _ _ => rfl) rfl (fun _ _ _ => rfl) (by decide) (by decide) rfl rfl rfl rfl rfl (by decide) ?_
  refine sn_ch [.inl (6, [.ref 1, .null, .null, .null, .null, .null, .null]), .inr (.inr (1, [some 2, some 4, some 6, some 8, none, none])), .inl (2, [.ref 3, .int (-9)]), sn_z 40, .inl (2, [.ref 5, .int (-9)]), sn_z 40, .inl (2, [.ref 7, .int (-9)]), sn_z 40, .inl (2, [.ref 9, .int (-9)]), sn_z 40, .inl (2, [.ref 11, .int (-9)]), sn_z 40] [.ref 10, .int (4), .ref 1] [1, 0, 0, 0, 0, 0] 11 216 rfl rfl rfl rfl rfl ?_
  refine sn_aast (t0 := 0) [.inl (6, [.ref 1, .null, .null, .null, .null, .null, .null]), .inr (.inr (1, [some 2, some 4, some 6, some 8, some 10, none])), .inl (2, [.ref 3, .int (-9)]), sn_z 40, .inl (2, [.ref 5, .int (-9)]), sn_z 40, .inl (2, [.ref 7, .int (-9)]), sn_z 40, .inl (2, [.ref 9, .int (-9)]), sn_z 40, .inl (2, [.ref 11, .int (-9)]), sn_z 40] ii_ho_init_35 rfl rfl rfl rfl rfl (by decide) rfl ?_
  refine sn_iinc (5) [some (.ref 0), some (.int (5))] ii_ho_init_36 rfl (by decide) rfl rfl ?_
  refine sn_goto 15 ii_ho_init_39 (by decide) ?_
  refine sn_iload_n ii_ho_init_15 rfl ?_
  refine sn_bipush (6) ii_ho_init_16 (by decide) ?_
  refine sn_ge_f 42 ii_ho_init_18 (by decide) (by decide) ?_
  refine sn_aload_n ii_ho_init_21 rfl ?_
  refine sn_getR 1 ii_ho_init_22 fl_ho_11 rfl rfl ?_
  refine sn_iload_n ii_ho_init_25 rfl ?_
  refine sn_new (ci := 2) (C := "HerOrders$Row") (T := TX2) (N := 2) [.null, .int (0)] tyX2 ii_ho_init_26 rfl sm_inX2 tyX2_ok cq_cl_ho_9 cq_in_2 cq_ini_2 (by decide) rfl rfl (by decide) ?_
  refine sn_ch [.inl (6, [.ref 1, .null, .null, .null, .null, .null, .null]), .inr (.inr (1, [some 2, some 4, some 6, some 8, some 10, none])), .inl (2, [.ref 3, .int (-9)]), sn_z 40, .inl (2, [.ref 5, .int (-9)]), sn_z 40, .inl (2, [.ref 7, .int (-9)]), sn_z 40, .inl (2, [.ref 9, .int (-9)]), sn_z 40, .inl (2, [.ref 11, .int (-9)]), sn_z 40, .inl (2, [.null, .int (0)])] [.ref 12, .int (5), .ref 1] [1, 0, 0, 0, 0, 0] 12 218 rfl rfl rfl rfl rfl ?_
  refine sn_dup ii_ho_init_29 ?_
  refine sn_bipush (40) ii_ho_init_30 (by decide) ?_
  refine sn_call (Wp := [.inl (6, [.ref 1, .null, .null, .null, .null, .null, .null]), .inr (.inr (1, [some 2, some 4, some 6, some 8, some 10, none])), .inl (2, [.ref 3, .int (-9)]), sn_z 40, .inl (2, [.ref 5, .int (-9)]), sn_z 40, .inl (2, [.ref 7, .int (-9)]), sn_z 40, .inl (2, [.ref 9, .int (-9)]), sn_z 40, .inl (2, [.ref 11, .int (-9)]), sn_z 40]) (o1 := .inl (2, [.null, .int (0)])) (m2 := 2) 12 0 [.int (40)] [.int (40)] [.ref 12, .int (5), .ref 1] [.inl (2, [.ref 13, .int (-9)]), sn_z 40] rfl rfl ii_ho_init_32 ml_ho_15 mf_rw_init mh_rw_init rfl rfl (Nat.le_of_ble_eq_true rfl) rfl rfl rfl mk_rw_init_0 (fun _ => rfl) (fun _ _ => rfl) rfl (fun _ _ _ => rfl) (by decide) (by decide) rfl rfl rfl rfl rfl (by decide) ?_
  refine sn_ch [.inl (6, [.ref 1, .null, .null, .null, .null, .null, .null]), .inr (.inr (1, [some 2, some 4, some 6, some 8, some 10, none])), .inl (2, [.ref 3, .int (-9)]), sn_z 40, .inl (2, [.ref 5, .int (-9)]), sn_z 40, .inl (2, [.ref 7, .int (-9)]), sn_z 40, .inl (2, [.ref 9, .int (-9)]), sn_z 40, .inl (2, [.ref 11, .int (-9)]), sn_z 40, .inl (2, [.ref 13, .int (-9)]), sn_z 40] [.ref 12, .int (5), .ref 1] [1, 0, 0, 0, 0, 0, 0] 13 258 rfl rfl rfl rfl rfl ?_
  refine sn_aast (t0 := 0) [.inl (6, [.ref 1, .null, .null, .null, .null, .null, .null]), .inr (.inr (1, [some 2, some 4, some 6, some 8, some 10, some 12])), .inl (2, [.ref 3, .int (-9)]), sn_z 40, .inl (2, [.ref 5, .int (-9)]), sn_z 40, .inl (2, [.ref 7, .int (-9)]), sn_z 40, .inl (2, [.ref 9, .int (-9)]), sn_z 40, .inl (2, [.ref 11, .int (-9)]), sn_z 40, .inl (2, [.ref 13, .int (-9)]), sn_z 40] ii_ho_init_35 rfl rfl rfl rfl rfl (by decide) rfl ?_
  refine sn_iinc (6) [some (.ref 0), some (.int (6))] ii_ho_init_36 rfl (by decide) rfl rfl ?_
  refine sn_goto 15 ii_ho_init_39 (by decide) ?_
  refine sn_iload_n ii_ho_init_15 rfl ?_
  refine sn_bipush (6) ii_ho_init_16 (by decide) ?_
  refine sn_ge_t 42 ii_ho_init_18 (by decide) (by decide) ?_
  refine sn_aload_n ii_ho_init_42 rfl ?_
  refine sn_iconst (4) ii_ho_init_43 (by decide) ?_
  refine sn_newq (t := 1) (C := "HerOrders$Row") (N := 4) ii_ho_init_44 cq_cl_ho_9 cq_ov_1 rfl (by decide) (by decide) (by decide) rfl (by decide) ?_
  refine sn_ch [.inl (6, [.ref 1, .null, .null, .null, .null, .null, .null]), .inr (.inr (1, [some 2, some 4, some 6, some 8, some 10, some 12])), .inl (2, [.ref 3, .int (-9)]), sn_z 40, .inl (2, [.ref 5, .int (-9)]), sn_z 40, .inl (2, [.ref 7, .int (-9)]), sn_z 40, .inl (2, [.ref 9, .int (-9)]), sn_z 40, .inl (2, [.ref 11, .int (-9)]), sn_z 40, .inl (2, [.ref 13, .int (-9)]), sn_z 40, .inr (.inr (1, [none, none, none, none]))] [.ref 14, .ref 0] [1, 0, 0, 0, 0, 0, 0, 1] 14 262 rfl rfl rfl rfl rfl ?_
  refine sn_put [.inl (6, [.ref 1, .ref 14, .null, .null, .null, .null, .null]), .inr (.inr (1, [some 2, some 4, some 6, some 8, some 10, some 12])), .inl (2, [.ref 3, .int (-9)]), sn_z 40, .inl (2, [.ref 5, .int (-9)]), sn_z 40, .inl (2, [.ref 7, .int (-9)]), sn_z 40, .inl (2, [.ref 9, .int (-9)]), sn_z 40, .inl (2, [.ref 11, .int (-9)]), sn_z 40, .inl (2, [.ref 13, .int (-9)]), sn_z 40, .inr (.inr (1, [none, none, none, none]))] ii_ho_init_47 fc_ho_18 rfl rfl rfl (fun _ => rfl) (fun _ => rfl) rfl ?_
  refine sn_iconst (0) ii_ho_init_50 (by decide) ?_
  refine sn_istore_n [some (.ref 0), some (.int (0))] ii_ho_init_51 rfl rfl ?_
  refine sn_iload_n ii_ho_init_52 rfl ?_
  refine sn_iconst (4) ii_ho_init_53 (by decide) ?_
  refine sn_ge_f 78 ii_ho_init_54 (by decide) (by decide) ?_
  refine sn_aload_n ii_ho_init_57 rfl ?_
  refine sn_getR 14 ii_ho_init_58 fl_ho_18 rfl rfl ?_
  refine sn_iload_n ii_ho_init_61 rfl ?_
  refine sn_new (ci := 2) (C := "HerOrders$Row") (T := TX2) (N := 2) [.null, .int (0)] tyX2 ii_ho_init_62 rfl sm_inX2 tyX2_ok cq_cl_ho_9 cq_in_2 cq_ini_2 (by decide) rfl rfl (by decide) ?_
  refine sn_ch [.inl (6, [.ref 1, .ref 14, .null, .null, .null, .null, .null]), .inr (.inr (1, [some 2, some 4, some 6, some 8, some 10, some 12])), .inl (2, [.ref 3, .int (-9)]), sn_z 40, .inl (2, [.ref 5, .int (-9)]), sn_z 40, .inl (2, [.ref 7, .int (-9)]), sn_z 40, .inl (2, [.ref 9, .int (-9)]), sn_z 40, .inl (2, [.ref 11, .int (-9)]), sn_z 40, .inl (2, [.ref 13, .int (-9)]), sn_z 40, .inr (.inr (1, [none, none, none, none])), .inl (2, [.null, .int (0)])] [.ref 15, .int (0), .ref 14] [1, 0, 0, 0, 0, 0, 0, 1] 15 264 rfl rfl rfl rfl rfl ?_
  refine sn_dup ii_ho_init_65 ?_
  refine sn_bipush (60) ii_ho_init_66 (by decide) ?_
  refine sn_call (Wp := [.inl (6, [.ref 1, .ref 14, .null, .null, .null, .null, .null]), .inr (.inr (1, [some 2, some 4, some 6, some 8, some 10, some 12])), .inl (2, [.ref 3, .int (-9)]), sn_z 40, .inl (2, [.ref 5, .int (-9)]), sn_z 40, .inl (2, [.ref 7, .int (-9)]), sn_z 40, .inl (2, [.ref 9, .int (-9)]), sn_z 40, .inl (2, [.ref 11, .int (-9)]), sn_z 40, .inl (2, [.ref 13, .int (-9)]), sn_z 40, .inr (.inr (1, [none, none, none, none]))]) (o1 := .inl (2, [.null, .int (0)])) (m2 := 2) 15 0 [.int (60)] [.int (60)] [.ref 15, .int (0), .ref 14] [.inl (2, [.ref 16, .int (-9)]), sn_z 60] rfl rfl ii_ho_init_68 ml_ho_15 mf_rw_init mh_rw_init rfl rfl (Nat.le_of_ble_eq_true rfl) rfl rfl rfl mk_rw_init_1 (fun _ => rfl) (fun _ _ => rfl) rfl (fun _ _ _ => rfl) (by decide) (by decide) rfl rfl rfl rfl rfl (by decide) ?_
  refine sn_ch [.inl (6, [.ref 1, .ref 14, .null, .null, .null, .null, .null]), .inr (.inr (1, [some 2, some 4, some 6, some 8, some 10, some 12])), .inl (2, [.ref 3, .int (-9)]), sn_z 40, .inl (2, [.ref 5, .int (-9)]), sn_z 40, .inl (2, [.ref 7, .int (-9)]), sn_z 40, .inl (2, [.ref 9, .int (-9)]), sn_z 40, .inl (2, [.ref 11, .int (-9)]), sn_z 40, .inl (2, [.ref 13, .int (-9)]), sn_z 40, .inr (.inr (1, [none, none, none, none])), .inl (2, [.ref 16, .int (-9)]), sn_z 60] [.ref 15, .int (0), .ref 14] [1, 0, 0, 0, 0, 0, 0, 1, 0] 16 324 rfl rfl rfl rfl rfl ?_
  refine sn_aast (t0 := 0) [.inl (6, [.ref 1, .ref 14, .null, .null, .null, .null, .null]), .inr (.inr (1, [some 2, some 4, some 6, some 8, some 10, some 12])), .inl (2, [.ref 3, .int (-9)]), sn_z 40, .inl (2, [.ref 5, .int (-9)]), sn_z 40, .inl (2, [.ref 7, .int (-9)]), sn_z 40, .inl (2, [.ref 9, .int (-9)]), sn_z 40, .inl (2, [.ref 11, .int (-9)]), sn_z 40, .inl (2, [.ref 13, .int (-9)]), sn_z 40, .inr (.inr (1, [some 15, none, none, none])), .inl (2, [.ref 16, .int (-9)]), sn_z 60] ii_ho_init_71 rfl rfl rfl rfl rfl (by decide) rfl ?_
  refine sn_iinc (1) [some (.ref 0), some (.int (1))] ii_ho_init_72 rfl (by decide) rfl rfl ?_
  refine sn_goto 52 ii_ho_init_75 (by decide) ?_
  refine sn_iload_n ii_ho_init_52 rfl ?_
  refine sn_iconst (4) ii_ho_init_53 (by decide) ?_
  refine sn_ge_f 78 ii_ho_init_54 (by decide) (by decide) ?_
  refine sn_aload_n ii_ho_init_57 rfl ?_
  refine sn_getR 14 ii_ho_init_58 fl_ho_18 rfl rfl ?_
  refine sn_iload_n ii_ho_init_61 rfl ?_
  refine sn_new (ci := 2) (C := "HerOrders$Row") (T := TX2) (N := 2) [.null, .int (0)] tyX2 ii_ho_init_62 rfl sm_inX2 tyX2_ok cq_cl_ho_9 cq_in_2 cq_ini_2 (by decide) rfl rfl (by decide) ?_
  refine sn_ch [.inl (6, [.ref 1, .ref 14, .null, .null, .null, .null, .null]), .inr (.inr (1, [some 2, some 4, some 6, some 8, some 10, some 12])), .inl (2, [.ref 3, .int (-9)]), sn_z 40, .inl (2, [.ref 5, .int (-9)]), sn_z 40, .inl (2, [.ref 7, .int (-9)]), sn_z 40, .inl (2, [.ref 9, .int (-9)]), sn_z 40, .inl (2, [.ref 11, .int (-9)]), sn_z 40, .inl (2, [.ref 13, .int (-9)]), sn_z 40, .inr (.inr (1, [some 15, none, none, none])), .inl (2, [.ref 16, .int (-9)]), sn_z 60, .inl (2, [.null, .int (0)])] [.ref 17, .int (1), .ref 14] [1, 0, 0, 0, 0, 0, 0, 1, 0] 17 326 rfl rfl rfl rfl rfl ?_
  refine sn_dup ii_ho_init_65 ?_
  refine sn_bipush (60) ii_ho_init_66 (by decide) ?_
  refine sn_call (Wp := [.inl (6, [.ref 1, .ref 14, .null, .null, .null, .null, .null]), .inr (.inr (1, [some 2, some 4, some 6, some 8, some 10, some 12])), .inl (2, [.ref 3, .int (-9)]), sn_z 40, .inl (2, [.ref 5, .int (-9)]), sn_z 40, .inl (2, [.ref 7, .int (-9)]), sn_z 40, .inl (2, [.ref 9, .int (-9)]), sn_z 40, .inl (2, [.ref 11, .int (-9)]), sn_z 40, .inl (2, [.ref 13, .int (-9)]), sn_z 40, .inr (.inr (1, [some 15, none, none, none])), .inl (2, [.ref 16, .int (-9)]), sn_z 60]) (o1 := .inl (2, [.null, .int (0)])) (m2 := 2) 17 0 [.int (60)] [.int (60)] [.ref 17, .int (1), .ref 14] [.inl (2, [.ref 18, .int (-9)]), sn_z 60] rfl rfl ii_ho_init_68 ml_ho_15 mf_rw_init mh_rw_init rfl rfl (Nat.le_of_ble_eq_true rfl) rfl rfl rfl mk_rw_init_1 (fun _ => rfl) (fun _ _ => rfl) rfl (fun _ _ _ => rfl) (by decide) (by decide) rfl rfl rfl rfl rfl (by decide) ?_
  refine sn_ch [.inl (6, [.ref 1, .ref 14, .null, .null, .null, .null, .null]), .inr (.inr (1, [some 2, some 4, some 6, some 8, some 10, some 12])), .inl (2, [.ref 3, .int (-9)]), sn_z 40, .inl (2, [.ref 5, .int (-9)]), sn_z 40, .inl (2, [.ref 7, .int (-9)]), sn_z 40, .inl (2, [.ref 9, .int (-9)]), sn_z 40, .inl (2, [.ref 11, .int (-9)]), sn_z 40, .inl (2, [.ref 13, .int (-9)]), sn_z 40, .inr (.inr (1, [some 15, none, none, none])), .inl (2, [.ref 16, .int (-9)]), sn_z 60, .inl (2, [.ref 18, .int (-9)]), sn_z 60] [.ref 17, .int (1), .ref 14] [1, 0, 0, 0, 0, 0, 0, 1, 0, 0] 18 386 rfl rfl rfl rfl rfl ?_
  refine sn_aast (t0 := 0) [.inl (6, [.ref 1, .ref 14, .null, .null, .null, .null, .null]), .inr (.inr (1, [some 2, some 4, some 6, some 8, some 10, some 12])), .inl (2, [.ref 3, .int (-9)]), sn_z 40, .inl (2, [.ref 5, .int (-9)]), sn_z 40, .inl (2, [.ref 7, .int (-9)]), sn_z 40, .inl (2, [.ref 9, .int (-9)]), sn_z 40, .inl (2, [.ref 11, .int (-9)]), sn_z 40, .inl (2, [.ref 13, .int (-9)]), sn_z 40, .inr (.inr (1, [some 15, some 17, none, none])), .inl (2, [.ref 16, .int (-9)]), sn_z 60, .inl (2, [.ref 18, .int (-9)]), sn_z 60] ii_ho_init_71 rfl rfl rfl rfl rfl (by decide) rfl ?_
  refine sn_iinc (2) [some (.ref 0), some (.int (2))] ii_ho_init_72 rfl (by decide) rfl rfl ?_
  refine sn_goto 52 ii_ho_init_75 (by decide) ?_
  refine sn_iload_n ii_ho_init_52 rfl ?_
  refine sn_iconst (4) ii_ho_init_53 (by decide) ?_
  refine sn_ge_f 78 ii_ho_init_54 (by decide) (by decide) ?_
  refine sn_aload_n ii_ho_init_57 rfl ?_
  refine sn_getR 14 ii_ho_init_58 fl_ho_18 rfl rfl ?_
  refine sn_iload_n ii_ho_init_61 rfl ?_
  refine sn_new (ci := 2) (C := "HerOrders$Row") (T := TX2) (N := 2) [.null, .int (0)] tyX2 ii_ho_init_62 rfl sm_inX2 tyX2_ok cq_cl_ho_9 cq_in_2 cq_ini_2 (by decide) rfl rfl (by decide) ?_
  refine sn_ch [.inl (6, [.ref 1, .ref 14, .null, .null, .null, .null, .null]), .inr (.inr (1, [some 2, some 4, some 6, some 8, some 10, some 12])), .inl (2, [.ref 3, .int (-9)]), sn_z 40, .inl (2, [.ref 5, .int (-9)]), sn_z 40, .inl (2, [.ref 7, .int (-9)]), sn_z 40, .inl (2, [.ref 9, .int (-9)]), sn_z 40, .inl (2, [.ref 11, .int (-9)]), sn_z 40, .inl (2, [.ref 13, .int (-9)]), sn_z 40, .inr (.inr (1, [some 15, some 17, none, none])), .inl (2, [.ref 16, .int (-9)]), sn_z 60, .inl (2, [.ref 18, .int (-9)]), sn_z 60, .inl (2, [.null, .int (0)])] [.ref 19, .int (2), .ref 14] [1, 0, 0, 0, 0, 0, 0, 1, 0, 0] 19 388 rfl rfl rfl rfl rfl ?_
  refine sn_dup ii_ho_init_65 ?_
  refine sn_bipush (60) ii_ho_init_66 (by decide) ?_
  refine sn_call (Wp := [.inl (6, [.ref 1, .ref 14, .null, .null, .null, .null, .null]), .inr (.inr (1, [some 2, some 4, some 6, some 8, some 10, some 12])), .inl (2, [.ref 3, .int (-9)]), sn_z 40, .inl (2, [.ref 5, .int (-9)]), sn_z 40, .inl (2, [.ref 7, .int (-9)]), sn_z 40, .inl (2, [.ref 9, .int (-9)]), sn_z 40, .inl (2, [.ref 11, .int (-9)]), sn_z 40, .inl (2, [.ref 13, .int (-9)]), sn_z 40, .inr (.inr (1, [some 15, some 17, none, none])), .inl (2, [.ref 16, .int (-9)]), sn_z 60, .inl (2, [.ref 18, .int (-9)]), sn_z 60]) (o1 := .inl (2, [.null, .int (0)])) (m2 := 2) 19 0 [.int (60)] [.int (60)] [.ref 19, .int (2), .ref 14] [.inl (2, [.ref 20, .int (-9)]), sn_z 60] rfl rfl ii_ho_init_68 ml_ho_15 mf_rw_init mh_rw_init rfl rfl (Nat.le_of_ble_eq_true rfl) rfl rfl rfl mk_rw_init_1 (fun _ => rfl) (fun _ _ => rfl) rfl (fun _ _ _ => rfl) (by decide) (by decide) rfl rfl rfl rfl rfl (by decide) ?_
  refine sn_ch [.inl (6, [.ref 1, .ref 14, .null, .null, .null, .null, .null]), .inr (.inr (1, [some 2, some 4, some 6, some 8, some 10, some 12])), .inl (2, [.ref 3, .int (-9)]), sn_z 40, .inl (2, [.ref 5, .int (-9)]), sn_z 40, .inl (2, [.ref 7, .int (-9)]), sn_z 40, .inl (2, [.ref 9, .int (-9)]), sn_z 40, .inl (2, [.ref 11, .int (-9)]), sn_z 40, .inl (2, [.ref 13, .int (-9)]), sn_z 40, .inr (.inr (1, [some 15, some 17, none, none])), .inl (2, [.ref 16, .int (-9)]), sn_z 60, .inl (2, [.ref 18, .int (-9)]), sn_z 60, .inl (2, [.ref 20, .int (-9)]), sn_z 60] [.ref 19, .int (2), .ref 14] [1, 0, 0, 0, 0, 0, 0, 1, 0, 0, 0] 20 448 rfl rfl rfl rfl rfl ?_
  refine sn_aast (t0 := 0) [.inl (6, [.ref 1, .ref 14, .null, .null, .null, .null, .null]), .inr (.inr (1, [some 2, some 4, some 6, some 8, some 10, some 12])), .inl (2, [.ref 3, .int (-9)]), sn_z 40, .inl (2, [.ref 5, .int (-9)]), sn_z 40, .inl (2, [.ref 7, .int (-9)]), sn_z 40, .inl (2, [.ref 9, .int (-9)]), sn_z 40, .inl (2, [.ref 11, .int (-9)]), sn_z 40, .inl (2, [.ref 13, .int (-9)]), sn_z 40, .inr (.inr (1, [some 15, some 17, some 19, none])), .inl (2, [.ref 16, .int (-9)]), sn_z 60, .inl (2, [.ref 18, .int (-9)]), sn_z 60, .inl (2, [.ref 20, .int (-9)]), sn_z 60] ii_ho_init_71 rfl rfl rfl rfl rfl (by decide) rfl ?_
  refine sn_iinc (3) [some (.ref 0), some (.int (3))] ii_ho_init_72 rfl (by decide) rfl rfl ?_
  refine sn_goto 52 ii_ho_init_75 (by decide) ?_
  refine sn_iload_n ii_ho_init_52 rfl ?_
  refine sn_iconst (4) ii_ho_init_53 (by decide) ?_
  refine sn_ge_f 78 ii_ho_init_54 (by decide) (by decide) ?_
  refine sn_aload_n ii_ho_init_57 rfl ?_
  refine sn_getR 14 ii_ho_init_58 fl_ho_18 rfl rfl ?_
  refine sn_iload_n ii_ho_init_61 rfl ?_
  refine sn_new (ci := 2) (C := "HerOrders$Row") (T := TX2) (N := 2) [.null, .int (0)] tyX2 ii_ho_init_62 rfl sm_inX2 tyX2_ok cq_cl_ho_9 cq_in_2 cq_ini_2 (by decide) rfl rfl (by decide) ?_
  refine sn_ch [.inl (6, [.ref 1, .ref 14, .null, .null, .null, .null, .null]), .inr (.inr (1, [some 2, some 4, some 6, some 8, some 10, some 12])), .inl (2, [.ref 3, .int (-9)]), sn_z 40, .inl (2, [.ref 5, .int (-9)]), sn_z 40, .inl (2, [.ref 7, .int (-9)]), sn_z 40, .inl (2, [.ref 9, .int (-9)]), sn_z 40, .inl (2, [.ref 11, .int (-9)]), sn_z 40, .inl (2, [.ref 13, .int (-9)]), sn_z 40, .inr (.inr (1, [some 15, some 17, some 19, none])), .inl (2, [.ref 16, .int (-9)]), sn_z 60, .inl (2, [.ref 18, .int (-9)]), sn_z 60, .inl (2, [.ref 20, .int (-9)]), sn_z 60, .inl (2, [.null, .int (0)])] [.ref 21, .int (3), .ref 14] [1, 0, 0, 0, 0, 0, 0, 1, 0, 0, 0] 21 450 rfl rfl rfl rfl rfl ?_
  refine sn_dup ii_ho_init_65 ?_
  refine sn_bipush (60) ii_ho_init_66 (by decide) ?_
  refine sn_call (Wp := [.inl (6, [.ref 1, .ref 14, .null, .null, .null, .null, .null]), .inr (.inr (1, [some 2, some 4, some 6, some 8, some 10, some 12])), .inl (2, [.ref 3, .int (-9)]), sn_z 40, .inl (2, [.ref 5, .int (-9)]), sn_z 40, .inl (2, [.ref 7, .int (-9)]), sn_z 40, .inl (2, [.ref 9, .int (-9)]), sn_z 40, .inl (2, [.ref 11, .int (-9)]), sn_z 40, .inl (2, [.ref 13, .int (-9)]), sn_z 40, .inr (.inr (1, [some 15, some 17, some 19, none])), .inl (2, [.ref 16, .int (-9)]), sn_z 60, .inl (2, [.ref 18, .int (-9)]), sn_z 60, .inl (2, [.ref 20, .int (-9)]), sn_z 60]) (o1 := .inl (2, [.null, .int (0)])) (m2 := 2) 21 0 [.int (60)] [.int (60)] [.ref 21, .int (3), .ref 14] [.inl (2, [.ref 22, .int (-9)]), sn_z 60] rfl rfl ii_ho_init_68 ml_ho_15 mf_rw_init mh_rw_init rfl rfl (Nat.le_of_ble_eq_true rfl) rfl rfl rfl mk_rw_init_1 (fun _ => rfl) (fun _ _ => rfl) rfl (fun _ _ _ => rfl) (by decide) (by decide) rfl rfl rfl rfl rfl (by decide) ?_
  refine sn_ch [.inl (6, [.ref 1, .ref 14, .null, .null, .null, .null, .null]), .inr (.inr (1, [some 2, some 4, some 6, some 8, some 10, some 12])), .inl (2, [.ref 3, .int (-9)]), sn_z 40, .inl (2, [.ref 5, .int (-9)]), sn_z 40, .inl (2, [.ref 7, .int (-9)]), sn_z 40, .inl (2, [.ref 9, .int (-9)]), sn_z 40, .inl (2, [.ref 11, .int (-9)]), sn_z 40, .inl (2, [.ref 13, .int (-9)]), sn_z 40, .inr (.inr (1, [some 15, some 17, some 19, none])), .inl (2, [.ref 16, .int (-9)]), sn_z 60, .inl (2, [.ref 18, .int (-9)]), sn_z 60, .inl (2, [.ref 20, .int (-9)]), sn_z 60, .inl (2, [.ref 22, .int (-9)]), sn_z 60] [.ref 21, .int (3), .ref 14] [1, 0, 0, 0, 0, 0, 0, 1, 0, 0, 0, 0] 22 510 rfl rfl rfl rfl rfl ?_
  refine sn_aast (t0 := 0) [.inl (6, [.ref 1, .ref 14, .null, .null, .null, .null, .null]), .inr (.inr (1, [some 2, some 4, some 6, some 8, some 10, some 12])), .inl (2, [.ref 3, .int (-9)]), sn_z 40, .inl (2, [.ref 5, .int (-9)]), sn_z 40, .inl (2, [.ref 7, .int (-9)]), sn_z 40, .inl (2, [.ref 9, .int (-9)]), sn_z 40, .inl (2, [.ref 11, .int (-9)]), sn_z 40, .inl (2, [.ref 13, .int (-9)]), sn_z 40, .inr (.inr (1, [some 15, some 17, some 19, some 21])), .inl (2, [.ref 16, .int (-9)]), sn_z 60, .inl (2, [.ref 18, .int (-9)]), sn_z 60, .inl (2, [.ref 20, .int (-9)]), sn_z 60, .inl (2, [.ref 22, .int (-9)]), sn_z 60] ii_ho_init_71 rfl rfl rfl rfl rfl (by decide) rfl ?_
  refine sn_iinc (4) [some (.ref 0), some (.int (4))] ii_ho_init_72 rfl (by decide) rfl rfl ?_
  refine sn_goto 52 ii_ho_init_75 (by decide) ?_
  refine sn_iload_n ii_ho_init_52 rfl ?_
  refine sn_iconst (4) ii_ho_init_53 (by decide) ?_
  refine sn_ge_t 78 ii_ho_init_54 (by decide) (by decide) ?_
  refine sn_aload_n ii_ho_init_78 rfl ?_
  refine sn_iconst (3) ii_ho_init_79 (by decide) ?_
  refine sn_newq (t := 2) (C := "HerOrders$Deeds") (N := 3) ii_ho_init_80 cq_cl_ho_21 cq_ov_2 rfl (by decide) (by decide) (by decide) rfl (by decide) ?_
  refine sn_ch [.inl (6, [.ref 1, .ref 14, .null, .null, .null, .null, .null]), .inr (.inr (1, [some 2, some 4, some 6, some 8, some 10, some 12])), .inl (2, [.ref 3, .int (-9)]), sn_z 40, .inl (2, [.ref 5, .int (-9)]), sn_z 40, .inl (2, [.ref 7, .int (-9)]), sn_z 40, .inl (2, [.ref 9, .int (-9)]), sn_z 40, .inl (2, [.ref 11, .int (-9)]), sn_z 40, .inl (2, [.ref 13, .int (-9)]), sn_z 40, .inr (.inr (1, [some 15, some 17, some 19, some 21])), .inl (2, [.ref 16, .int (-9)]), sn_z 60, .inl (2, [.ref 18, .int (-9)]), sn_z 60, .inl (2, [.ref 20, .int (-9)]), sn_z 60, .inl (2, [.ref 22, .int (-9)]), sn_z 60, .inr (.inr (2, [none, none, none]))] [.ref 23, .ref 0] [1, 0, 0, 0, 0, 0, 0, 1, 0, 0, 0, 0, 2] 23 513 rfl rfl rfl rfl rfl ?_
  refine sn_put [.inl (6, [.ref 1, .ref 14, .null, .ref 23, .null, .null, .null]), .inr (.inr (1, [some 2, some 4, some 6, some 8, some 10, some 12])), .inl (2, [.ref 3, .int (-9)]), sn_z 40, .inl (2, [.ref 5, .int (-9)]), sn_z 40, .inl (2, [.ref 7, .int (-9)]), sn_z 40, .inl (2, [.ref 9, .int (-9)]), sn_z 40, .inl (2, [.ref 11, .int (-9)]), sn_z 40, .inl (2, [.ref 13, .int (-9)]), sn_z 40, .inr (.inr (1, [some 15, some 17, some 19, some 21])), .inl (2, [.ref 16, .int (-9)]), sn_z 60, .inl (2, [.ref 18, .int (-9)]), sn_z 60, .inl (2, [.ref 20, .int (-9)]), sn_z 60, .inl (2, [.ref 22, .int (-9)]), sn_z 60, .inr (.inr (2, [none, none, none]))] ii_ho_init_83 fc_ho_23 rfl rfl rfl (fun _ => rfl) (fun _ => rfl) rfl ?_
  refine sn_iconst (0) ii_ho_init_86 (by decide) ?_
  refine sn_istore_n [some (.ref 0), some (.int (0))] ii_ho_init_87 rfl rfl ?_
  refine sn_iload_n ii_ho_init_88 rfl ?_
  refine sn_iconst (3) ii_ho_init_89 (by decide) ?_
  refine sn_ge_f 114 ii_ho_init_90 (by decide) (by decide) ?_
  refine sn_aload_n ii_ho_init_93 rfl ?_
  refine sn_getR 23 ii_ho_init_94 fl_ho_23 rfl rfl ?_
  refine sn_iload_n ii_ho_init_97 rfl ?_
  refine sn_new (ci := 0) (C := "HerOrders$Deeds") (T := TX0) (N := 4) [.null, .null, .null, .int (0)] tyX0 ii_ho_init_98 rfl sm_inX0 tyX0_ok cq_cl_ho_21 cq_in_0 cq_ini_0 (by decide) rfl rfl (by decide) ?_
  refine sn_ch [.inl (6, [.ref 1, .ref 14, .null, .ref 23, .null, .null, .null]), .inr (.inr (1, [some 2, some 4, some 6, some 8, some 10, some 12])), .inl (2, [.ref 3, .int (-9)]), sn_z 40, .inl (2, [.ref 5, .int (-9)]), sn_z 40, .inl (2, [.ref 7, .int (-9)]), sn_z 40, .inl (2, [.ref 9, .int (-9)]), sn_z 40, .inl (2, [.ref 11, .int (-9)]), sn_z 40, .inl (2, [.ref 13, .int (-9)]), sn_z 40, .inr (.inr (1, [some 15, some 17, some 19, some 21])), .inl (2, [.ref 16, .int (-9)]), sn_z 60, .inl (2, [.ref 18, .int (-9)]), sn_z 60, .inl (2, [.ref 20, .int (-9)]), sn_z 60, .inl (2, [.ref 22, .int (-9)]), sn_z 60, .inr (.inr (2, [none, none, none])), .inl (0, [.null, .null, .null, .int (0)])] [.ref 24, .int (0), .ref 23] [1, 0, 0, 0, 0, 0, 0, 1, 0, 0, 0, 0, 2] 24 517 rfl rfl rfl rfl rfl ?_
  refine sn_dup ii_ho_init_101 ?_
  refine sn_bipush (-9) ii_ho_init_102 (by decide) ?_
  refine sn_call (Wp := [.inl (6, [.ref 1, .ref 14, .null, .ref 23, .null, .null, .null]), .inr (.inr (1, [some 2, some 4, some 6, some 8, some 10, some 12])), .inl (2, [.ref 3, .int (-9)]), sn_z 40, .inl (2, [.ref 5, .int (-9)]), sn_z 40, .inl (2, [.ref 7, .int (-9)]), sn_z 40, .inl (2, [.ref 9, .int (-9)]), sn_z 40, .inl (2, [.ref 11, .int (-9)]), sn_z 40, .inl (2, [.ref 13, .int (-9)]), sn_z 40, .inr (.inr (1, [some 15, some 17, some 19, some 21])), .inl (2, [.ref 16, .int (-9)]), sn_z 60, .inl (2, [.ref 18, .int (-9)]), sn_z 60, .inl (2, [.ref 20, .int (-9)]), sn_z 60, .inl (2, [.ref 22, .int (-9)]), sn_z 60, .inr (.inr (2, [none, none, none]))]) (o1 := .inl (0, [.null, .null, .null, .int (0)])) (m2 := 4) 24 0 [.int (-9)] [.int (-9)] [.ref 24, .int (0), .ref 23] [.inl (0, [.ref 25, .ref 26, .ref 27, .int (-9)]), sn_z 40, sn_z 40, sn_z 40] rfl rfl ii_ho_init_104 ml_ho_27 mf_de_init mh_de_init rfl rfl (Nat.le_of_ble_eq_true rfl) rfl rfl rfl mk_de_init_2 (fun _ => rfl) (fun _ _ => rfl) rfl (fun _ _ _ => rfl) (by decide) (by decide) rfl rfl rfl rfl rfl (by decide) ?_
  refine sn_ch [.inl (6, [.ref 1, .ref 14, .null, .ref 23, .null, .null, .null]), .inr (.inr (1, [some 2, some 4, some 6, some 8, some 10, some 12])), .inl (2, [.ref 3, .int (-9)]), sn_z 40, .inl (2, [.ref 5, .int (-9)]), sn_z 40, .inl (2, [.ref 7, .int (-9)]), sn_z 40, .inl (2, [.ref 9, .int (-9)]), sn_z 40, .inl (2, [.ref 11, .int (-9)]), sn_z 40, .inl (2, [.ref 13, .int (-9)]), sn_z 40, .inr (.inr (1, [some 15, some 17, some 19, some 21])), .inl (2, [.ref 16, .int (-9)]), sn_z 60, .inl (2, [.ref 18, .int (-9)]), sn_z 60, .inl (2, [.ref 20, .int (-9)]), sn_z 60, .inl (2, [.ref 22, .int (-9)]), sn_z 60, .inr (.inr (2, [none, none, none])), .inl (0, [.ref 25, .ref 26, .ref 27, .int (-9)]), sn_z 40, sn_z 40, sn_z 40] [.ref 24, .int (0), .ref 23] [1, 0, 0, 0, 0, 0, 0, 1, 0, 0, 0, 0, 2, 0] 27 637 rfl rfl rfl rfl rfl ?_
  refine sn_aast (t0 := 12) [.inl (6, [.ref 1, .ref 14, .null, .ref 23, .null, .null, .null]), .inr (.inr (1, [some 2, some 4, some 6, some 8, some 10, some 12])), .inl (2, [.ref 3, .int (-9)]), sn_z 40, .inl (2, [.ref 5, .int (-9)]), sn_z 40, .inl (2, [.ref 7, .int (-9)]), sn_z 40, .inl (2, [.ref 9, .int (-9)]), sn_z 40, .inl (2, [.ref 11, .int (-9)]), sn_z 40, .inl (2, [.ref 13, .int (-9)]), sn_z 40, .inr (.inr (1, [some 15, some 17, some 19, some 21])), .inl (2, [.ref 16, .int (-9)]), sn_z 60, .inl (2, [.ref 18, .int (-9)]), sn_z 60, .inl (2, [.ref 20, .int (-9)]), sn_z 60, .inl (2, [.ref 22, .int (-9)]), sn_z 60, .inr (.inr (2, [some 24, none, none])), .inl (0, [.ref 25, .ref 26, .ref 27, .int (-9)]), sn_z 40, sn_z 40, sn_z 40] ii_ho_init_107 rfl rfl rfl rfl rfl (by decide) rfl ?_
  refine sn_iinc (1) [some (.ref 0), some (.int (1))] ii_ho_init_108 rfl (by decide) rfl rfl ?_
  refine sn_goto 88 ii_ho_init_111 (by decide) ?_
  refine sn_iload_n ii_ho_init_88 rfl ?_
  refine sn_iconst (3) ii_ho_init_89 (by decide) ?_
  refine sn_ge_f 114 ii_ho_init_90 (by decide) (by decide) ?_
  refine sn_aload_n ii_ho_init_93 rfl ?_
  refine sn_getR 23 ii_ho_init_94 fl_ho_23 rfl rfl ?_
  refine sn_iload_n ii_ho_init_97 rfl ?_
  refine sn_new (ci := 0) (C := "HerOrders$Deeds") (T := TX0) (N := 4) [.null, .null, .null, .int (0)] tyX0 ii_ho_init_98 rfl sm_inX0 tyX0_ok cq_cl_ho_21 cq_in_0 cq_ini_0 (by decide) rfl rfl (by decide) ?_
  refine sn_ch [.inl (6, [.ref 1, .ref 14, .null, .ref 23, .null, .null, .null]), .inr (.inr (1, [some 2, some 4, some 6, some 8, some 10, some 12])), .inl (2, [.ref 3, .int (-9)]), sn_z 40, .inl (2, [.ref 5, .int (-9)]), sn_z 40, .inl (2, [.ref 7, .int (-9)]), sn_z 40, .inl (2, [.ref 9, .int (-9)]), sn_z 40, .inl (2, [.ref 11, .int (-9)]), sn_z 40, .inl (2, [.ref 13, .int (-9)]), sn_z 40, .inr (.inr (1, [some 15, some 17, some 19, some 21])), .inl (2, [.ref 16, .int (-9)]), sn_z 60, .inl (2, [.ref 18, .int (-9)]), sn_z 60, .inl (2, [.ref 20, .int (-9)]), sn_z 60, .inl (2, [.ref 22, .int (-9)]), sn_z 60, .inr (.inr (2, [some 24, none, none])), .inl (0, [.ref 25, .ref 26, .ref 27, .int (-9)]), sn_z 40, sn_z 40, sn_z 40, .inl (0, [.null, .null, .null, .int (0)])] [.ref 28, .int (1), .ref 23] [1, 0, 0, 0, 0, 0, 0, 1, 0, 0, 0, 0, 2, 0] 28 641 rfl rfl rfl rfl rfl ?_
  refine sn_dup ii_ho_init_101 ?_
  refine sn_bipush (-9) ii_ho_init_102 (by decide) ?_
  refine sn_call (Wp := [.inl (6, [.ref 1, .ref 14, .null, .ref 23, .null, .null, .null]), .inr (.inr (1, [some 2, some 4, some 6, some 8, some 10, some 12])), .inl (2, [.ref 3, .int (-9)]), sn_z 40, .inl (2, [.ref 5, .int (-9)]), sn_z 40, .inl (2, [.ref 7, .int (-9)]), sn_z 40, .inl (2, [.ref 9, .int (-9)]), sn_z 40, .inl (2, [.ref 11, .int (-9)]), sn_z 40, .inl (2, [.ref 13, .int (-9)]), sn_z 40, .inr (.inr (1, [some 15, some 17, some 19, some 21])), .inl (2, [.ref 16, .int (-9)]), sn_z 60, .inl (2, [.ref 18, .int (-9)]), sn_z 60, .inl (2, [.ref 20, .int (-9)]), sn_z 60, .inl (2, [.ref 22, .int (-9)]), sn_z 60, .inr (.inr (2, [some 24, none, none])), .inl (0, [.ref 25, .ref 26, .ref 27, .int (-9)]), sn_z 40, sn_z 40, sn_z 40]) (o1 := .inl (0, [.null, .null, .null, .int (0)])) (m2 := 4) 28 0 [.int (-9)] [.int (-9)] [.ref 28, .int (1), .ref 23] [.inl (0, [.ref 29, .ref 30, .ref 31, .int (-9)]), sn_z 40, sn_z 40, sn_z 40] rfl rfl ii_ho_init_104 ml_ho_27 mf_de_init mh_de_init rfl rfl (Nat.le_of_ble_eq_true rfl) rfl rfl rfl mk_de_init_2 (fun _ => rfl) (fun _ _ => rfl) rfl (fun _ _ _ => rfl) (by decide) (by decide) rfl rfl rfl rfl rfl (by decide) ?_
  refine sn_ch [.inl (6, [.ref 1, .ref 14, .null, .ref 23, .null, .null, .null]), .inr (.inr (1, [some 2, some 4, some 6, some 8, some 10, some 12])), .inl (2, [.ref 3, .int (-9)]), sn_z 40, .inl (2, [.ref 5, .int (-9)]), sn_z 40, .inl (2, [.ref 7, .int (-9)]), sn_z 40, .inl (2, [.ref 9, .int (-9)]), sn_z 40, .inl (2, [.ref 11, .int (-9)]), sn_z 40, .inl (2, [.ref 13, .int (-9)]), sn_z 40, .inr (.inr (1, [some 15, some 17, some 19, some 21])), .inl (2, [.ref 16, .int (-9)]), sn_z 60, .inl (2, [.ref 18, .int (-9)]), sn_z 60, .inl (2, [.ref 20, .int (-9)]), sn_z 60, .inl (2, [.ref 22, .int (-9)]), sn_z 60, .inr (.inr (2, [some 24, none, none])), .inl (0, [.ref 25, .ref 26, .ref 27, .int (-9)]), sn_z 40, sn_z 40, sn_z 40, .inl (0, [.ref 29, .ref 30, .ref 31, .int (-9)]), sn_z 40, sn_z 40, sn_z 40] [.ref 28, .int (1), .ref 23] [1, 0, 0, 0, 0, 0, 0, 1, 0, 0, 0, 0, 2, 0, 0] 31 761 rfl rfl rfl rfl rfl ?_
  refine sn_aast (t0 := 12) [.inl (6, [.ref 1, .ref 14, .null, .ref 23, .null, .null, .null]), .inr (.inr (1, [some 2, some 4, some 6, some 8, some 10, some 12])), .inl (2, [.ref 3, .int (-9)]), sn_z 40, .inl (2, [.ref 5, .int (-9)]), sn_z 40, .inl (2, [.ref 7, .int (-9)]), sn_z 40, .inl (2, [.ref 9, .int (-9)]), sn_z 40, .inl (2, [.ref 11, .int (-9)]), sn_z 40, .inl (2, [.ref 13, .int (-9)]), sn_z 40, .inr (.inr (1, [some 15, some 17, some 19, some 21])), .inl (2, [.ref 16, .int (-9)]), sn_z 60, .inl (2, [.ref 18, .int (-9)]), sn_z 60, .inl (2, [.ref 20, .int (-9)]), sn_z 60, .inl (2, [.ref 22, .int (-9)]), sn_z 60, .inr (.inr (2, [some 24, some 28, none])), .inl (0, [.ref 25, .ref 26, .ref 27, .int (-9)]), sn_z 40, sn_z 40, sn_z 40, .inl (0, [.ref 29, .ref 30, .ref 31, .int (-9)]), sn_z 40, sn_z 40, sn_z 40] ii_ho_init_107 rfl rfl rfl rfl rfl (by decide) rfl ?_
  refine sn_iinc (2) [some (.ref 0), some (.int (2))] ii_ho_init_108 rfl (by decide) rfl rfl ?_
  refine sn_goto 88 ii_ho_init_111 (by decide) ?_
  refine sn_iload_n ii_ho_init_88 rfl ?_
  refine sn_iconst (3) ii_ho_init_89 (by decide) ?_
  refine sn_ge_f 114 ii_ho_init_90 (by decide) (by decide) ?_
  refine sn_aload_n ii_ho_init_93 rfl ?_
  refine sn_getR 23 ii_ho_init_94 fl_ho_23 rfl rfl ?_
  refine sn_iload_n ii_ho_init_97 rfl ?_
  refine sn_new (ci := 0) (C := "HerOrders$Deeds") (T := TX0) (N := 4) [.null, .null, .null, .int (0)] tyX0 ii_ho_init_98 rfl sm_inX0 tyX0_ok cq_cl_ho_21 cq_in_0 cq_ini_0 (by decide) rfl rfl (by decide) ?_
  refine sn_ch [.inl (6, [.ref 1, .ref 14, .null, .ref 23, .null, .null, .null]), .inr (.inr (1, [some 2, some 4, some 6, some 8, some 10, some 12])), .inl (2, [.ref 3, .int (-9)]), sn_z 40, .inl (2, [.ref 5, .int (-9)]), sn_z 40, .inl (2, [.ref 7, .int (-9)]), sn_z 40, .inl (2, [.ref 9, .int (-9)]), sn_z 40, .inl (2, [.ref 11, .int (-9)]), sn_z 40, .inl (2, [.ref 13, .int (-9)]), sn_z 40, .inr (.inr (1, [some 15, some 17, some 19, some 21])), .inl (2, [.ref 16, .int (-9)]), sn_z 60, .inl (2, [.ref 18, .int (-9)]), sn_z 60, .inl (2, [.ref 20, .int (-9)]), sn_z 60, .inl (2, [.ref 22, .int (-9)]), sn_z 60, .inr (.inr (2, [some 24, some 28, none])), .inl (0, [.ref 25, .ref 26, .ref 27, .int (-9)]), sn_z 40, sn_z 40, sn_z 40, .inl (0, [.ref 29, .ref 30, .ref 31, .int (-9)]), sn_z 40, sn_z 40, sn_z 40, .inl (0, [.null, .null, .null, .int (0)])] [.ref 32, .int (2), .ref 23] [1, 0, 0, 0, 0, 0, 0, 1, 0, 0, 0, 0, 2, 0, 0] 32 765 rfl rfl rfl rfl rfl ?_
  refine sn_dup ii_ho_init_101 ?_
  refine sn_bipush (-9) ii_ho_init_102 (by decide) ?_
  refine sn_call (Wp := [.inl (6, [.ref 1, .ref 14, .null, .ref 23, .null, .null, .null]), .inr (.inr (1, [some 2, some 4, some 6, some 8, some 10, some 12])), .inl (2, [.ref 3, .int (-9)]), sn_z 40, .inl (2, [.ref 5, .int (-9)]), sn_z 40, .inl (2, [.ref 7, .int (-9)]), sn_z 40, .inl (2, [.ref 9, .int (-9)]), sn_z 40, .inl (2, [.ref 11, .int (-9)]), sn_z 40, .inl (2, [.ref 13, .int (-9)]), sn_z 40, .inr (.inr (1, [some 15, some 17, some 19, some 21])), .inl (2, [.ref 16, .int (-9)]), sn_z 60, .inl (2, [.ref 18, .int (-9)]), sn_z 60, .inl (2, [.ref 20, .int (-9)]), sn_z 60, .inl (2, [.ref 22, .int (-9)]), sn_z 60, .inr (.inr (2, [some 24, some 28, none])), .inl (0, [.ref 25, .ref 26, .ref 27, .int (-9)]), sn_z 40, sn_z 40, sn_z 40, .inl (0, [.ref 29, .ref 30, .ref 31, .int (-9)]), sn_z 40, sn_z 40, sn_z 40]) (o1 := .inl (0, [.null, .null, .null, .int (0)])) (m2 := 4) 32 0 [.int (-9)] [.int (-9)] [.ref 32, .int (2), .ref 23] [.inl (0, [.ref 33, .ref 34, .ref 35, .int (-9)]), sn_z 40, sn_z 40, sn_z 40] rfl rfl ii_ho_init_104 ml_ho_27 mf_de_init mh_de_init rfl rfl (Nat.le_of_ble_eq_true rfl) rfl rfl rfl mk_de_init_2 (fun _ => rfl) (fun _ _ => rfl) rfl (fun _ _ _ => rfl) (by decide) (by decide) rfl rfl rfl rfl rfl (by decide) ?_
  refine sn_ch [.inl (6, [.ref 1, .ref 14, .null, .ref 23, .null, .null, .null]), .inr (.inr (1, [some 2, some 4, some 6, some 8, some 10, some 12])), .inl (2, [.ref 3, .int (-9)]), sn_z 40, .inl (2, [.ref 5, .int (-9)]), sn_z 40, .inl (2, [.ref 7, .int (-9)]), sn_z 40, .inl (2, [.ref 9, .int (-9)]), sn_z 40, .inl (2, [.ref 11, .int (-9)]), sn_z 40, .inl (2, [.ref 13, .int (-9)]), sn_z 40, .inr (.inr (1, [some 15, some 17, some 19, some 21])), .inl (2, [.ref 16, .int (-9)]), sn_z 60, .inl (2, [.ref 18, .int (-9)]), sn_z 60, .inl (2, [.ref 20, .int (-9)]), sn_z 60, .inl (2, [.ref 22, .int (-9)]), sn_z 60, .inr (.inr (2, [some 24, some 28, none])), .inl (0, [.ref 25, .ref 26, .ref 27, .int (-9)]), sn_z 40, sn_z 40, sn_z 40, .inl (0, [.ref 29, .ref 30, .ref 31, .int (-9)]), sn_z 40, sn_z 40, sn_z 40, .inl (0, [.ref 33, .ref 34, .ref 35, .int (-9)]), sn_z 40, sn_z 40, sn_z 40] [.ref 32, .int (2), .ref 23] [1, 0, 0, 0, 0, 0, 0, 1, 0, 0, 0, 0, 2, 0, 0, 0] 35 885 rfl rfl rfl rfl rfl ?_
  refine sn_aast (t0 := 12) [.inl (6, [.ref 1, .ref 14, .null, .ref 23, .null, .null, .null]), .inr (.inr (1, [some 2, some 4, some 6, some 8, some 10, some 12])), .inl (2, [.ref 3, .int (-9)]), sn_z 40, .inl (2, [.ref 5, .int (-9)]), sn_z 40, .inl (2, [.ref 7, .int (-9)]), sn_z 40, .inl (2, [.ref 9, .int (-9)]), sn_z 40, .inl (2, [.ref 11, .int (-9)]), sn_z 40, .inl (2, [.ref 13, .int (-9)]), sn_z 40, .inr (.inr (1, [some 15, some 17, some 19, some 21])), .inl (2, [.ref 16, .int (-9)]), sn_z 60, .inl (2, [.ref 18, .int (-9)]), sn_z 60, .inl (2, [.ref 20, .int (-9)]), sn_z 60, .inl (2, [.ref 22, .int (-9)]), sn_z 60, .inr (.inr (2, [some 24, some 28, some 32])), .inl (0, [.ref 25, .ref 26, .ref 27, .int (-9)]), sn_z 40, sn_z 40, sn_z 40, .inl (0, [.ref 29, .ref 30, .ref 31, .int (-9)]), sn_z 40, sn_z 40, sn_z 40, .inl (0, [.ref 33, .ref 34, .ref 35, .int (-9)]), sn_z 40, sn_z 40, sn_z 40] ii_ho_init_107 rfl rfl rfl rfl rfl (by decide) rfl ?_
  refine sn_iinc (3) [some (.ref 0), some (.int (3))] ii_ho_init_108 rfl (by decide) rfl rfl ?_
  refine sn_goto 88 ii_ho_init_111 (by decide) ?_
  refine sn_iload_n ii_ho_init_88 rfl ?_
  refine sn_iconst (3) ii_ho_init_89 (by decide) ?_
  refine sn_ge_t 114 ii_ho_init_90 (by decide) (by decide) ?_
  refine sn_aload_n ii_ho_init_114 rfl ?_
  refine sn_new (ci := 1) (C := "HerOrders$House") (T := TX1) (N := 13) [.int (0), .null, .null, .null, .null, .null, .null, .int (0), .int (0), .null, .null, .int (0), .null] tyX1 ii_ho_init_115 rfl sm_inX1 tyX1_ok cq_cl_ho_28 cq_in_1 cq_ini_1 (by decide) rfl rfl (by decide) ?_
  refine sn_ch [.inl (6, [.ref 1, .ref 14, .null, .ref 23, .null, .null, .null]), .inr (.inr (1, [some 2, some 4, some 6, some 8, some 10, some 12])), .inl (2, [.ref 3, .int (-9)]), sn_z 40, .inl (2, [.ref 5, .int (-9)]), sn_z 40, .inl (2, [.ref 7, .int (-9)]), sn_z 40, .inl (2, [.ref 9, .int (-9)]), sn_z 40, .inl (2, [.ref 11, .int (-9)]), sn_z 40, .inl (2, [.ref 13, .int (-9)]), sn_z 40, .inr (.inr (1, [some 15, some 17, some 19, some 21])), .inl (2, [.ref 16, .int (-9)]), sn_z 60, .inl (2, [.ref 18, .int (-9)]), sn_z 60, .inl (2, [.ref 20, .int (-9)]), sn_z 60, .inl (2, [.ref 22, .int (-9)]), sn_z 60, .inr (.inr (2, [some 24, some 28, some 32])), .inl (0, [.ref 25, .ref 26, .ref 27, .int (-9)]), sn_z 40, sn_z 40, sn_z 40, .inl (0, [.ref 29, .ref 30, .ref 31, .int (-9)]), sn_z 40, sn_z 40, sn_z 40, .inl (0, [.ref 33, .ref 34, .ref 35, .int (-9)]), sn_z 40, sn_z 40, sn_z 40, .inl (1, [.int (0), .null, .null, .null, .null, .null, .null, .int (0), .int (0), .null, .null, .int (0), .null])] [.ref 36, .ref 0] [1, 0, 0, 0, 0, 0, 0, 1, 0, 0, 0, 0, 2, 0, 0, 0] 36 898 rfl rfl rfl rfl rfl ?_
  refine sn_dup ii_ho_init_118 ?_
  refine sn_call (Wp := [.inl (6, [.ref 1, .ref 14, .null, .ref 23, .null, .null, .null]), .inr (.inr (1, [some 2, some 4, some 6, some 8, some 10, some 12])), .inl (2, [.ref 3, .int (-9)]), sn_z 40, .inl (2, [.ref 5, .int (-9)]), sn_z 40, .inl (2, [.ref 7, .int (-9)]), sn_z 40, .inl (2, [.ref 9, .int (-9)]), sn_z 40, .inl (2, [.ref 11, .int (-9)]), sn_z 40, .inl (2, [.ref 13, .int (-9)]), sn_z 40, .inr (.inr (1, [some 15, some 17, some 19, some 21])), .inl (2, [.ref 16, .int (-9)]), sn_z 60, .inl (2, [.ref 18, .int (-9)]), sn_z 60, .inl (2, [.ref 20, .int (-9)]), sn_z 60, .inl (2, [.ref 22, .int (-9)]), sn_z 60, .inr (.inr (2, [some 24, some 28, some 32])), .inl (0, [.ref 25, .ref 26, .ref 27, .int (-9)]), sn_z 40, sn_z 40, sn_z 40, .inl (0, [.ref 29, .ref 30, .ref 31, .int (-9)]), sn_z 40, sn_z 40, sn_z 40, .inl (0, [.ref 33, .ref 34, .ref 35, .int (-9)]), sn_z 40, sn_z 40, sn_z 40]) (o1 := .inl (1, [.int (0), .null, .null, .null, .null, .null, .null, .int (0), .int (0), .null, .null, .int (0), .null])) (m2 := 13) 36 0 [] [] [.ref 36, .ref 0] [.inl (1, [.int (0), .ref 37, .ref 38, .ref 39, .ref 40, .ref 41, .ref 42, .int (0), .int (0), .ref 43, .ref 44, .int (0), .ref 45]), sn_z 6, sn_z 6, sn_z 6, sn_z 6, sn_z 6, sn_z 6, sn_z 8, sn_z 8, .inl (0, [.ref 46, .ref 47, .ref 48, .int (0)]), sn_z 40, sn_z 40, sn_z 40] rfl rfl ii_ho_init_119 ml_ho_30 mf_hs_init mh_hs_init rfl rfl (Nat.le_of_ble_eq_true rfl) rfl rfl rfl mk_hs_init_4 (fun _ => rfl) (fun _ _ => rfl) rfl (fun _ _ _ => rfl) (by decide) (by decide) rfl rfl rfl rfl rfl (by decide) ?_
  refine sn_ch [.inl (6, [.ref 1, .ref 14, .null, .ref 23, .null, .null, .null]), .inr (.inr (1, [some 2, some 4, some 6, some 8, some 10, some 12])), .inl (2, [.ref 3, .int (-9)]), sn_z 40, .inl (2, [.ref 5, .int (-9)]), sn_z 40, .inl (2, [.ref 7, .int (-9)]), sn_z 40, .inl (2, [.ref 9, .int (-9)]), sn_z 40, .inl (2, [.ref 11, .int (-9)]), sn_z 40, .inl (2, [.ref 13, .int (-9)]), sn_z 40, .inr (.inr (1, [some 15, some 17, some 19, some 21])), .inl (2, [.ref 16, .int (-9)]), sn_z 60, .inl (2, [.ref 18, .int (-9)]), sn_z 60, .inl (2, [.ref 20, .int (-9)]), sn_z 60, .inl (2, [.ref 22, .int (-9)]), sn_z 60, .inr (.inr (2, [some 24, some 28, some 32])), .inl (0, [.ref 25, .ref 26, .ref 27, .int (-9)]), sn_z 40, sn_z 40, sn_z 40, .inl (0, [.ref 29, .ref 30, .ref 31, .int (-9)]), sn_z 40, sn_z 40, sn_z 40, .inl (0, [.ref 33, .ref 34, .ref 35, .int (-9)]), sn_z 40, sn_z 40, sn_z 40, .inl (1, [.int (0), .ref 37, .ref 38, .ref 39, .ref 40, .ref 41, .ref 42, .int (0), .int (0), .ref 43, .ref 44, .int (0), .ref 45]), sn_z 6, sn_z 6, sn_z 6, sn_z 6, sn_z 6, sn_z 6, sn_z 8, sn_z 8, .inl (0, [.ref 46, .ref 47, .ref 48, .int (0)]), sn_z 40, sn_z 40, sn_z 40] [.ref 36, .ref 0] [1, 0, 0, 0, 0, 0, 0, 1, 0, 0, 0, 0, 2, 0, 0, 0, 0] 48 1074 rfl rfl rfl rfl rfl ?_
  refine sn_put [.inl (6, [.ref 1, .ref 14, .ref 36, .ref 23, .null, .null, .null]), .inr (.inr (1, [some 2, some 4, some 6, some 8, some 10, some 12])), .inl (2, [.ref 3, .int (-9)]), sn_z 40, .inl (2, [.ref 5, .int (-9)]), sn_z 40, .inl (2, [.ref 7, .int (-9)]), sn_z 40, .inl (2, [.ref 9, .int (-9)]), sn_z 40, .inl (2, [.ref 11, .int (-9)]), sn_z 40, .inl (2, [.ref 13, .int (-9)]), sn_z 40, .inr (.inr (1, [some 15, some 17, some 19, some 21])), .inl (2, [.ref 16, .int (-9)]), sn_z 60, .inl (2, [.ref 18, .int (-9)]), sn_z 60, .inl (2, [.ref 20, .int (-9)]), sn_z 60, .inl (2, [.ref 22, .int (-9)]), sn_z 60, .inr (.inr (2, [some 24, some 28, some 32])), .inl (0, [.ref 25, .ref 26, .ref 27, .int (-9)]), sn_z 40, sn_z 40, sn_z 40, .inl (0, [.ref 29, .ref 30, .ref 31, .int (-9)]), sn_z 40, sn_z 40, sn_z 40, .inl (0, [.ref 33, .ref 34, .ref 35, .int (-9)]), sn_z 40, sn_z 40, sn_z 40, .inl (1, [.int (0), .ref 37, .ref 38, .ref 39, .ref 40, .ref 41, .ref 42, .int (0), .int (0), .ref 43, .ref 44, .int (0), .ref 45]), sn_z 6, sn_z 6, sn_z 6, sn_z 6, sn_z 6, sn_z 6, sn_z 8, sn_z 8, .inl (0, [.ref 46, .ref 47, .ref 48, .int (0)]), sn_z 40, sn_z 40, sn_z 40] ii_ho_init_122 fc_ho_31 rfl rfl rfl (fun _ => rfl) (fun _ => rfl) rfl ?_
  refine sn_aload_n ii_ho_init_125 rfl ?_
  refine sn_new (ci := 5) (C := "HerOrders$Ways") (T := TX5) (N := 14) [.null, .null, .null, .int (0), .null, .null, .null, .null, .int (0), .int (0), .int (0), .int (0), .int (0), .int (0)] tyX5 ii_ho_init_126 rfl sm_inX5 tyX5_ok cq_cl_ho_35 cq_in_5 cq_ini_5 (by decide) rfl rfl (by decide) ?_
  refine sn_ch [.inl (6, [.ref 1, .ref 14, .ref 36, .ref 23, .null, .null, .null]), .inr (.inr (1, [some 2, some 4, some 6, some 8, some 10, some 12])), .inl (2, [.ref 3, .int (-9)]), sn_z 40, .inl (2, [.ref 5, .int (-9)]), sn_z 40, .inl (2, [.ref 7, .int (-9)]), sn_z 40, .inl (2, [.ref 9, .int (-9)]), sn_z 40, .inl (2, [.ref 11, .int (-9)]), sn_z 40, .inl (2, [.ref 13, .int (-9)]), sn_z 40, .inr (.inr (1, [some 15, some 17, some 19, some 21])), .inl (2, [.ref 16, .int (-9)]), sn_z 60, .inl (2, [.ref 18, .int (-9)]), sn_z 60, .inl (2, [.ref 20, .int (-9)]), sn_z 60, .inl (2, [.ref 22, .int (-9)]), sn_z 60, .inr (.inr (2, [some 24, some 28, some 32])), .inl (0, [.ref 25, .ref 26, .ref 27, .int (-9)]), sn_z 40, sn_z 40, sn_z 40, .inl (0, [.ref 29, .ref 30, .ref 31, .int (-9)]), sn_z 40, sn_z 40, sn_z 40, .inl (0, [.ref 33, .ref 34, .ref 35, .int (-9)]), sn_z 40, sn_z 40, sn_z 40, .inl (1, [.int (0), .ref 37, .ref 38, .ref 39, .ref 40, .ref 41, .ref 42, .int (0), .int (0), .ref 43, .ref 44, .int (0), .ref 45]), sn_z 6, sn_z 6, sn_z 6, sn_z 6, sn_z 6, sn_z 6, sn_z 8, sn_z 8, .inl (0, [.ref 46, .ref 47, .ref 48, .int (0)]), sn_z 40, sn_z 40, sn_z 40, .inl (5, [.null, .null, .null, .int (0), .null, .null, .null, .null, .int (0), .int (0), .int (0), .int (0), .int (0), .int (0)])] [.ref 49, .ref 0] [1, 0, 0, 0, 0, 0, 0, 1, 0, 0, 0, 0, 2, 0, 0, 0, 0] 49 1088 rfl rfl rfl rfl rfl ?_
  refine sn_dup ii_ho_init_129 ?_
  refine sn_aload_n ii_ho_init_130 rfl ?_
  refine sn_getR 36 ii_ho_init_131 fl_ho_31 rfl rfl ?_
  refine sn_call (Wp := [.inl (6, [.ref 1, .ref 14, .ref 36, .ref 23, .null, .null, .null]), .inr (.inr (1, [some 2, some 4, some 6, some 8, some 10, some 12])), .inl (2, [.ref 3, .int (-9)]), sn_z 40, .inl (2, [.ref 5, .int (-9)]), sn_z 40, .inl (2, [.ref 7, .int (-9)]), sn_z 40, .inl (2, [.ref 9, .int (-9)]), sn_z 40, .inl (2, [.ref 11, .int (-9)]), sn_z 40, .inl (2, [.ref 13, .int (-9)]), sn_z 40, .inr (.inr (1, [some 15, some 17, some 19, some 21])), .inl (2, [.ref 16, .int (-9)]), sn_z 60, .inl (2, [.ref 18, .int (-9)]), sn_z 60, .inl (2, [.ref 20, .int (-9)]), sn_z 60, .inl (2, [.ref 22, .int (-9)]), sn_z 60, .inr (.inr (2, [some 24, some 28, some 32])), .inl (0, [.ref 25, .ref 26, .ref 27, .int (-9)]), sn_z 40, sn_z 40, sn_z 40, .inl (0, [.ref 29, .ref 30, .ref 31, .int (-9)]), sn_z 40, sn_z 40, sn_z 40, .inl (0, [.ref 33, .ref 34, .ref 35, .int (-9)]), sn_z 40, sn_z 40, sn_z 40, .inl (1, [.int (0), .ref 37, .ref 38, .ref 39, .ref 40, .ref 41, .ref 42, .int (0), .int (0), .ref 43, .ref 44, .int (0), .ref 45]), sn_z 6, sn_z 6, sn_z 6, sn_z 6, sn_z 6, sn_z 6, sn_z 8, sn_z 8, .inl (0, [.ref 46, .ref 47, .ref 48, .int (0)]), sn_z 40, sn_z 40, sn_z 40]) (o1 := .inl (5, [.null, .null, .null, .int (0), .null, .null, .null, .null, .int (0), .int (0), .int (0), .int (0), .int (0), .int (0)])) (m2 := 7) 49 36 [.ref 900] [.ref 36] [.ref 49, .ref 0] [.inl (5, [.ref 36, .ref 50, .ref 51, .int (0), .ref 52, .ref 53, .ref 54, .ref 55, .int (0), .int (0), .int (0), .int (0), .int (0), .int (0)]), sn_z 5, sn_z 5, sn_z 5, sn_z 6, sn_z 64, sn_z 5] rfl rfl ii_ho_init_134 ml_ho_37 mf_wy_init mh_wy_init rfl rfl (Nat.le_of_ble_eq_true rfl) rfl rfl rfl mk_wy_init_5 (fun _ => rfl) (fun _ _ => rfl) rfl (fun _ _ _ => rfl) (by decide) (by decide) rfl rfl rfl rfl rfl (by decide) ?_
  refine sn_ch ((.inl (6, [.ref 1, .ref 14, .ref 36, .ref 23, .null, .null, .null])) :: (.inr (.inr (1, [some 2, some 4, some 6, some 8, some 10, some 12]))) :: (.inl (2, [.ref 3, .int (-9)])) :: (sn_z 40) :: (.inl (2, [.ref 5, .int (-9)])) :: (sn_z 40) :: (.inl (2, [.ref 7, .int (-9)])) :: (sn_z 40) :: (.inl (2, [.ref 9, .int (-9)])) :: (sn_z 40) :: (.inl (2, [.ref 11, .int (-9)])) :: (sn_z 40) :: (.inl (2, [.ref 13, .int (-9)])) :: (sn_z 40) :: (.inr (.inr (1, [some 15, some 17, some 19, some 21]))) :: (.inl (2, [.ref 16, .int (-9)])) :: (sn_z 60) :: (.inl (2, [.ref 18, .int (-9)])) :: (sn_z 60) :: (.inl (2, [.ref 20, .int (-9)])) :: (sn_z 60) :: (.inl (2, [.ref 22, .int (-9)])) :: (sn_z 60) :: (.inr (.inr (2, [some 24, some 28, some 32]))) :: (.inl (0, [.ref 25, .ref 26, .ref 27, .int (-9)])) :: (sn_z 40) :: (sn_z 40) :: (sn_z 40) :: (.inl (0, [.ref 29, .ref 30, .ref 31, .int (-9)])) :: (sn_z 40) :: (sn_z 40) :: (sn_z 40) :: (.inl (0, [.ref 33, .ref 34, .ref 35, .int (-9)])) :: (sn_z 40) :: (sn_z 40) :: (sn_z 40) :: (.inl (1, [.int (0), .ref 37, .ref 38, .ref 39, .ref 40, .ref 41, .ref 42, .int (0), .int (0), .ref 43, .ref 44, .int (0), .ref 45])) :: (sn_z 6) :: (sn_z 6) :: (sn_z 6) :: (sn_z 6) :: (sn_z 6) :: (sn_z 6) :: (sn_z 8) :: (sn_z 8) :: (.inl (0, [.ref 46, .ref 47, .ref 48, .int (0)])) :: (sn_z 40) :: (sn_z 40) :: (sn_z 40) :: (.inl (5, [.ref 36, .ref 50, .ref 51, .int (0), .ref 52, .ref 53, .ref 54, .ref 55, .int (0), .int (0), .int (0), .int (0), .int (0), .int (0)])) :: (sn_z 5) :: (sn_z 5) :: (sn_z 5) :: (sn_z 6) :: (sn_z 64) :: (sn_z 5) :: []) [.ref 49, .ref 0] [1, 0, 0, 0, 0, 0, 0, 1, 0, 0, 0, 0, 2, 0, 0, 0, 0, 0] 55 1178 rfl rfl rfl rfl rfl ?_
  refine sn_put ((.inl (6, [.ref 1, .ref 14, .ref 36, .ref 23, .ref 49, .null, .null])) :: (.inr (.inr (1, [some 2, some 4, some 6, some 8, some 10, some 12]))) :: (.inl (2, [.ref 3, .int (-9)])) :: (sn_z 40) :: (.inl (2, [.ref 5, .int (-9)])) :: (sn_z 40) :: (.inl (2, [.ref 7, .int (-9)])) :: (sn_z 40) :: (.inl (2, [.ref 9, .int (-9)])) :: (sn_z 40) :: (.inl (2, [.ref 11, .int (-9)])) :: (sn_z 40) :: (.inl (2, [.ref 13, .int (-9)])) :: (sn_z 40) :: (.inr (.inr (1, [some 15, some 17, some 19, some 21]))) :: (.inl (2, [.ref 16, .int (-9)])) :: (sn_z 60) :: (.inl (2, [.ref 18, .int (-9)])) :: (sn_z 60) :: (.inl (2, [.ref 20, .int (-9)])) :: (sn_z 60) :: (.inl (2, [.ref 22, .int (-9)])) :: (sn_z 60) :: (.inr (.inr (2, [some 24, some 28, some 32]))) :: (.inl (0, [.ref 25, .ref 26, .ref 27, .int (-9)])) :: (sn_z 40) :: (sn_z 40) :: (sn_z 40) :: (.inl (0, [.ref 29, .ref 30, .ref 31, .int (-9)])) :: (sn_z 40) :: (sn_z 40) :: (sn_z 40) :: (.inl (0, [.ref 33, .ref 34, .ref 35, .int (-9)])) :: (sn_z 40) :: (sn_z 40) :: (sn_z 40) :: (.inl (1, [.int (0), .ref 37, .ref 38, .ref 39, .ref 40, .ref 41, .ref 42, .int (0), .int (0), .ref 43, .ref 44, .int (0), .ref 45])) :: (sn_z 6) :: (sn_z 6) :: (sn_z 6) :: (sn_z 6) :: (sn_z 6) :: (sn_z 6) :: (sn_z 8) :: (sn_z 8) :: (.inl (0, [.ref 46, .ref 47, .ref 48, .int (0)])) :: (sn_z 40) :: (sn_z 40) :: (sn_z 40) :: (.inl (5, [.ref 36, .ref 50, .ref 51, .int (0), .ref 52, .ref 53, .ref 54, .ref 55, .int (0), .int (0), .int (0), .int (0), .int (0), .int (0)])) :: (sn_z 5) :: (sn_z 5) :: (sn_z 5) :: (sn_z 6) :: (sn_z 64) :: (sn_z 5) :: []) ii_ho_init_137 fc_ho_40 rfl rfl rfl (fun _ => rfl) (fun _ => rfl) rfl ?_
  refine sn_aload_n ii_ho_init_140 rfl ?_
  refine sn_new (ci := 4) (C := "HerOrders$Trials") (T := TX4) (N := 5) [.null, .null, .null, .int (0), .null] tyX4 ii_ho_init_141 rfl sm_inX4 tyX4_ok cq_cl_ho_44 cq_in_4 cq_ini_4 (by decide) rfl rfl (by decide) ?_
  refine sn_ch ((.inl (6, [.ref 1, .ref 14, .ref 36, .ref 23, .ref 49, .null, .null])) :: (.inr (.inr (1, [some 2, some 4, some 6, some 8, some 10, some 12]))) :: (.inl (2, [.ref 3, .int (-9)])) :: (sn_z 40) :: (.inl (2, [.ref 5, .int (-9)])) :: (sn_z 40) :: (.inl (2, [.ref 7, .int (-9)])) :: (sn_z 40) :: (.inl (2, [.ref 9, .int (-9)])) :: (sn_z 40) :: (.inl (2, [.ref 11, .int (-9)])) :: (sn_z 40) :: (.inl (2, [.ref 13, .int (-9)])) :: (sn_z 40) :: (.inr (.inr (1, [some 15, some 17, some 19, some 21]))) :: (.inl (2, [.ref 16, .int (-9)])) :: (sn_z 60) :: (.inl (2, [.ref 18, .int (-9)])) :: (sn_z 60) :: (.inl (2, [.ref 20, .int (-9)])) :: (sn_z 60) :: (.inl (2, [.ref 22, .int (-9)])) :: (sn_z 60) :: (.inr (.inr (2, [some 24, some 28, some 32]))) :: (.inl (0, [.ref 25, .ref 26, .ref 27, .int (-9)])) :: (sn_z 40) :: (sn_z 40) :: (sn_z 40) :: (.inl (0, [.ref 29, .ref 30, .ref 31, .int (-9)])) :: (sn_z 40) :: (sn_z 40) :: (sn_z 40) :: (.inl (0, [.ref 33, .ref 34, .ref 35, .int (-9)])) :: (sn_z 40) :: (sn_z 40) :: (sn_z 40) :: (.inl (1, [.int (0), .ref 37, .ref 38, .ref 39, .ref 40, .ref 41, .ref 42, .int (0), .int (0), .ref 43, .ref 44, .int (0), .ref 45])) :: (sn_z 6) :: (sn_z 6) :: (sn_z 6) :: (sn_z 6) :: (sn_z 6) :: (sn_z 6) :: (sn_z 8) :: (sn_z 8) :: (.inl (0, [.ref 46, .ref 47, .ref 48, .int (0)])) :: (sn_z 40) :: (sn_z 40) :: (sn_z 40) :: (.inl (5, [.ref 36, .ref 50, .ref 51, .int (0), .ref 52, .ref 53, .ref 54, .ref 55, .int (0), .int (0), .int (0), .int (0), .int (0), .int (0)])) :: (sn_z 5) :: (sn_z 5) :: (sn_z 5) :: (sn_z 6) :: (sn_z 64) :: (sn_z 5) :: (.inl (4, [.null, .null, .null, .int (0), .null])) :: []) [.ref 56, .ref 0] [1, 0, 0, 0, 0, 0, 0, 1, 0, 0, 0, 0, 2, 0, 0, 0, 0, 0] 56 1183 rfl rfl rfl rfl rfl ?_
  refine sn_dup ii_ho_init_144 ?_
  refine sn_aload_n ii_ho_init_145 rfl ?_
  refine sn_getR 36 ii_ho_init_146 fl_ho_31 rfl rfl ?_
  refine sn_call (Wp := ((.inl (6, [.ref 1, .ref 14, .ref 36, .ref 23, .ref 49, .null, .null])) :: (.inr (.inr (1, [some 2, some 4, some 6, some 8, some 10, some 12]))) :: (.inl (2, [.ref 3, .int (-9)])) :: (sn_z 40) :: (.inl (2, [.ref 5, .int (-9)])) :: (sn_z 40) :: (.inl (2, [.ref 7, .int (-9)])) :: (sn_z 40) :: (.inl (2, [.ref 9, .int (-9)])) :: (sn_z 40) :: (.inl (2, [.ref 11, .int (-9)])) :: (sn_z 40) :: (.inl (2, [.ref 13, .int (-9)])) :: (sn_z 40) :: (.inr (.inr (1, [some 15, some 17, some 19, some 21]))) :: (.inl (2, [.ref 16, .int (-9)])) :: (sn_z 60) :: (.inl (2, [.ref 18, .int (-9)])) :: (sn_z 60) :: (.inl (2, [.ref 20, .int (-9)])) :: (sn_z 60) :: (.inl (2, [.ref 22, .int (-9)])) :: (sn_z 60) :: (.inr (.inr (2, [some 24, some 28, some 32]))) :: (.inl (0, [.ref 25, .ref 26, .ref 27, .int (-9)])) :: (sn_z 40) :: (sn_z 40) :: (sn_z 40) :: (.inl (0, [.ref 29, .ref 30, .ref 31, .int (-9)])) :: (sn_z 40) :: (sn_z 40) :: (sn_z 40) :: (.inl (0, [.ref 33, .ref 34, .ref 35, .int (-9)])) :: (sn_z 40) :: (sn_z 40) :: (sn_z 40) :: (.inl (1, [.int (0), .ref 37, .ref 38, .ref 39, .ref 40, .ref 41, .ref 42, .int (0), .int (0), .ref 43, .ref 44, .int (0), .ref 45])) :: (sn_z 6) :: (sn_z 6) :: (sn_z 6) :: (sn_z 6) :: (sn_z 6) :: (sn_z 6) :: (sn_z 8) :: (sn_z 8) :: (.inl (0, [.ref 46, .ref 47, .ref 48, .int (0)])) :: (sn_z 40) :: (sn_z 40) :: (sn_z 40) :: (.inl (5, [.ref 36, .ref 50, .ref 51, .int (0), .ref 52, .ref 53, .ref 54, .ref 55, .int (0), .int (0), .int (0), .int (0), .int (0), .int (0)])) :: (sn_z 5) :: (sn_z 5) :: (sn_z 5) :: (sn_z 6) :: (sn_z 64) :: (sn_z 5) :: [])) (o1 := .inl (4, [.null, .null, .null, .int (0), .null])) (m2 := 4) 56 36 [.ref 900] [.ref 36] [.ref 56, .ref 0] [.inl (4, [.ref 36, .ref 57, .ref 58, .int (0), .ref 59]), sn_z 4, sn_z 4, sn_z 9] rfl rfl ii_ho_init_149 ml_ho_46 mf_tr_init mh_tr_init rfl rfl (Nat.le_of_ble_eq_true rfl) rfl rfl rfl mk_tr_init_6 (fun _ => rfl) (fun _ _ => rfl) rfl (fun _ _ _ => rfl) (by decide) (by decide) rfl rfl rfl rfl rfl (by decide) ?_
  refine sn_ch ((.inl (6, [.ref 1, .ref 14, .ref 36, .ref 23, .ref 49, .null, .null])) :: (.inr (.inr (1, [some 2, some 4, some 6, some 8, some 10, some 12]))) :: (.inl (2, [.ref 3, .int (-9)])) :: (sn_z 40) :: (.inl (2, [.ref 5, .int (-9)])) :: (sn_z 40) :: (.inl (2, [.ref 7, .int (-9)])) :: (sn_z 40) :: (.inl (2, [.ref 9, .int (-9)])) :: (sn_z 40) :: (.inl (2, [.ref 11, .int (-9)])) :: (sn_z 40) :: (.inl (2, [.ref 13, .int (-9)])) :: (sn_z 40) :: (.inr (.inr (1, [some 15, some 17, some 19, some 21]))) :: (.inl (2, [.ref 16, .int (-9)])) :: (sn_z 60) :: (.inl (2, [.ref 18, .int (-9)])) :: (sn_z 60) :: (.inl (2, [.ref 20, .int (-9)])) :: (sn_z 60) :: (.inl (2, [.ref 22, .int (-9)])) :: (sn_z 60) :: (.inr (.inr (2, [some 24, some 28, some 32]))) :: (.inl (0, [.ref 25, .ref 26, .ref 27, .int (-9)])) :: (sn_z 40) :: (sn_z 40) :: (sn_z 40) :: (.inl (0, [.ref 29, .ref 30, .ref 31, .int (-9)])) :: (sn_z 40) :: (sn_z 40) :: (sn_z 40) :: (.inl (0, [.ref 33, .ref 34, .ref 35, .int (-9)])) :: (sn_z 40) :: (sn_z 40) :: (sn_z 40) :: (.inl (1, [.int (0), .ref 37, .ref 38, .ref 39, .ref 40, .ref 41, .ref 42, .int (0), .int (0), .ref 43, .ref 44, .int (0), .ref 45])) :: (sn_z 6) :: (sn_z 6) :: (sn_z 6) :: (sn_z 6) :: (sn_z 6) :: (sn_z 6) :: (sn_z 8) :: (sn_z 8) :: (.inl (0, [.ref 46, .ref 47, .ref 48, .int (0)])) :: (sn_z 40) :: (sn_z 40) :: (sn_z 40) :: (.inl (5, [.ref 36, .ref 50, .ref 51, .int (0), .ref 52, .ref 53, .ref 54, .ref 55, .int (0), .int (0), .int (0), .int (0), .int (0), .int (0)])) :: (sn_z 5) :: (sn_z 5) :: (sn_z 5) :: (sn_z 6) :: (sn_z 64) :: (sn_z 5) :: (.inl (4, [.ref 36, .ref 57, .ref 58, .int (0), .ref 59])) :: (sn_z 4) :: (sn_z 4) :: (sn_z 9) :: []) [.ref 56, .ref 0] [1, 0, 0, 0, 0, 0, 0, 1, 0, 0, 0, 0, 2, 0, 0, 0, 0, 0, 0] 59 1200 rfl rfl rfl rfl rfl ?_
  refine sn_put ((.inl (6, [.ref 1, .ref 14, .ref 36, .ref 23, .ref 49, .ref 56, .null])) :: (.inr (.inr (1, [some 2, some 4, some 6, some 8, some 10, some 12]))) :: (.inl (2, [.ref 3, .int (-9)])) :: (sn_z 40) :: (.inl (2, [.ref 5, .int (-9)])) :: (sn_z 40) :: (.inl (2, [.ref 7, .int (-9)])) :: (sn_z 40) :: (.inl (2, [.ref 9, .int (-9)])) :: (sn_z 40) :: (.inl (2, [.ref 11, .int (-9)])) :: (sn_z 40) :: (.inl (2, [.ref 13, .int (-9)])) :: (sn_z 40) :: (.inr (.inr (1, [some 15, some 17, some 19, some 21]))) :: (.inl (2, [.ref 16, .int (-9)])) :: (sn_z 60) :: (.inl (2, [.ref 18, .int (-9)])) :: (sn_z 60) :: (.inl (2, [.ref 20, .int (-9)])) :: (sn_z 60) :: (.inl (2, [.ref 22, .int (-9)])) :: (sn_z 60) :: (.inr (.inr (2, [some 24, some 28, some 32]))) :: (.inl (0, [.ref 25, .ref 26, .ref 27, .int (-9)])) :: (sn_z 40) :: (sn_z 40) :: (sn_z 40) :: (.inl (0, [.ref 29, .ref 30, .ref 31, .int (-9)])) :: (sn_z 40) :: (sn_z 40) :: (sn_z 40) :: (.inl (0, [.ref 33, .ref 34, .ref 35, .int (-9)])) :: (sn_z 40) :: (sn_z 40) :: (sn_z 40) :: (.inl (1, [.int (0), .ref 37, .ref 38, .ref 39, .ref 40, .ref 41, .ref 42, .int (0), .int (0), .ref 43, .ref 44, .int (0), .ref 45])) :: (sn_z 6) :: (sn_z 6) :: (sn_z 6) :: (sn_z 6) :: (sn_z 6) :: (sn_z 6) :: (sn_z 8) :: (sn_z 8) :: (.inl (0, [.ref 46, .ref 47, .ref 48, .int (0)])) :: (sn_z 40) :: (sn_z 40) :: (sn_z 40) :: (.inl (5, [.ref 36, .ref 50, .ref 51, .int (0), .ref 52, .ref 53, .ref 54, .ref 55, .int (0), .int (0), .int (0), .int (0), .int (0), .int (0)])) :: (sn_z 5) :: (sn_z 5) :: (sn_z 5) :: (sn_z 6) :: (sn_z 64) :: (sn_z 5) :: (.inl (4, [.ref 36, .ref 57, .ref 58, .int (0), .ref 59])) :: (sn_z 4) :: (sn_z 4) :: (sn_z 9) :: []) ii_ho_init_152 fc_ho_47 rfl rfl rfl (fun _ => rfl) (fun _ => rfl) rfl ?_
  refine sn_aload_n ii_ho_init_155 rfl ?_
  refine sn_new (ci := 3) (C := "HerOrders$Told") (T := TX3) (N := 5) [.int (0), .long (0), .long (0), .int (0), .null] tyX3 ii_ho_init_156 rfl sm_inX3 tyX3_ok cq_cl_ho_51 cq_in_3 cq_ini_3 (by decide) rfl rfl (by decide) ?_
  refine sn_ch ((.inl (6, [.ref 1, .ref 14, .ref 36, .ref 23, .ref 49, .ref 56, .null])) :: (.inr (.inr (1, [some 2, some 4, some 6, some 8, some 10, some 12]))) :: (.inl (2, [.ref 3, .int (-9)])) :: (sn_z 40) :: (.inl (2, [.ref 5, .int (-9)])) :: (sn_z 40) :: (.inl (2, [.ref 7, .int (-9)])) :: (sn_z 40) :: (.inl (2, [.ref 9, .int (-9)])) :: (sn_z 40) :: (.inl (2, [.ref 11, .int (-9)])) :: (sn_z 40) :: (.inl (2, [.ref 13, .int (-9)])) :: (sn_z 40) :: (.inr (.inr (1, [some 15, some 17, some 19, some 21]))) :: (.inl (2, [.ref 16, .int (-9)])) :: (sn_z 60) :: (.inl (2, [.ref 18, .int (-9)])) :: (sn_z 60) :: (.inl (2, [.ref 20, .int (-9)])) :: (sn_z 60) :: (.inl (2, [.ref 22, .int (-9)])) :: (sn_z 60) :: (.inr (.inr (2, [some 24, some 28, some 32]))) :: (.inl (0, [.ref 25, .ref 26, .ref 27, .int (-9)])) :: (sn_z 40) :: (sn_z 40) :: (sn_z 40) :: (.inl (0, [.ref 29, .ref 30, .ref 31, .int (-9)])) :: (sn_z 40) :: (sn_z 40) :: (sn_z 40) :: (.inl (0, [.ref 33, .ref 34, .ref 35, .int (-9)])) :: (sn_z 40) :: (sn_z 40) :: (sn_z 40) :: (.inl (1, [.int (0), .ref 37, .ref 38, .ref 39, .ref 40, .ref 41, .ref 42, .int (0), .int (0), .ref 43, .ref 44, .int (0), .ref 45])) :: (sn_z 6) :: (sn_z 6) :: (sn_z 6) :: (sn_z 6) :: (sn_z 6) :: (sn_z 6) :: (sn_z 8) :: (sn_z 8) :: (.inl (0, [.ref 46, .ref 47, .ref 48, .int (0)])) :: (sn_z 40) :: (sn_z 40) :: (sn_z 40) :: (.inl (5, [.ref 36, .ref 50, .ref 51, .int (0), .ref 52, .ref 53, .ref 54, .ref 55, .int (0), .int (0), .int (0), .int (0), .int (0), .int (0)])) :: (sn_z 5) :: (sn_z 5) :: (sn_z 5) :: (sn_z 6) :: (sn_z 64) :: (sn_z 5) :: (.inl (4, [.ref 36, .ref 57, .ref 58, .int (0), .ref 59])) :: (sn_z 4) :: (sn_z 4) :: (sn_z 9) :: (.inl (3, [.int (0), .long (0), .long (0), .int (0), .null])) :: []) [.ref 60, .ref 0] [1, 0, 0, 0, 0, 0, 0, 1, 0, 0, 0, 0, 2, 0, 0, 0, 0, 0, 0] 60 1205 rfl rfl rfl rfl rfl ?_
  refine sn_dup ii_ho_init_159 ?_
  refine sn_call (Wp := ((.inl (6, [.ref 1, .ref 14, .ref 36, .ref 23, .ref 49, .ref 56, .null])) :: (.inr (.inr (1, [some 2, some 4, some 6, some 8, some 10, some 12]))) :: (.inl (2, [.ref 3, .int (-9)])) :: (sn_z 40) :: (.inl (2, [.ref 5, .int (-9)])) :: (sn_z 40) :: (.inl (2, [.ref 7, .int (-9)])) :: (sn_z 40) :: (.inl (2, [.ref 9, .int (-9)])) :: (sn_z 40) :: (.inl (2, [.ref 11, .int (-9)])) :: (sn_z 40) :: (.inl (2, [.ref 13, .int (-9)])) :: (sn_z 40) :: (.inr (.inr (1, [some 15, some 17, some 19, some 21]))) :: (.inl (2, [.ref 16, .int (-9)])) :: (sn_z 60) :: (.inl (2, [.ref 18, .int (-9)])) :: (sn_z 60) :: (.inl (2, [.ref 20, .int (-9)])) :: (sn_z 60) :: (.inl (2, [.ref 22, .int (-9)])) :: (sn_z 60) :: (.inr (.inr (2, [some 24, some 28, some 32]))) :: (.inl (0, [.ref 25, .ref 26, .ref 27, .int (-9)])) :: (sn_z 40) :: (sn_z 40) :: (sn_z 40) :: (.inl (0, [.ref 29, .ref 30, .ref 31, .int (-9)])) :: (sn_z 40) :: (sn_z 40) :: (sn_z 40) :: (.inl (0, [.ref 33, .ref 34, .ref 35, .int (-9)])) :: (sn_z 40) :: (sn_z 40) :: (sn_z 40) :: (.inl (1, [.int (0), .ref 37, .ref 38, .ref 39, .ref 40, .ref 41, .ref 42, .int (0), .int (0), .ref 43, .ref 44, .int (0), .ref 45])) :: (sn_z 6) :: (sn_z 6) :: (sn_z 6) :: (sn_z 6) :: (sn_z 6) :: (sn_z 6) :: (sn_z 8) :: (sn_z 8) :: (.inl (0, [.ref 46, .ref 47, .ref 48, .int (0)])) :: (sn_z 40) :: (sn_z 40) :: (sn_z 40) :: (.inl (5, [.ref 36, .ref 50, .ref 51, .int (0), .ref 52, .ref 53, .ref 54, .ref 55, .int (0), .int (0), .int (0), .int (0), .int (0), .int (0)])) :: (sn_z 5) :: (sn_z 5) :: (sn_z 5) :: (sn_z 6) :: (sn_z 64) :: (sn_z 5) :: (.inl (4, [.ref 36, .ref 57, .ref 58, .int (0), .ref 59])) :: (sn_z 4) :: (sn_z 4) :: (sn_z 9) :: [])) (o1 := .inl (3, [.int (0), .long (0), .long (0), .int (0), .null])) (m2 := 2) 60 0 [] [] [.ref 60, .ref 0] [.inl (3, [.int (0), .long (0), .long (1), .int (0), .ref 61]), sn_z 6] rfl rfl ii_ho_init_160 ml_ho_53 mf_td_init mh_td_init rfl rfl (Nat.le_of_ble_eq_true rfl) rfl rfl rfl mk_td_init_7 (fun _ => rfl) (fun _ _ => rfl) rfl (fun _ _ _ => rfl) (by decide) (by decide) rfl rfl rfl rfl rfl (by decide) ?_
  refine sn_ch ((.inl (6, [.ref 1, .ref 14, .ref 36, .ref 23, .ref 49, .ref 56, .null])) :: (.inr (.inr (1, [some 2, some 4, some 6, some 8, some 10, some 12]))) :: (.inl (2, [.ref 3, .int (-9)])) :: (sn_z 40) :: (.inl (2, [.ref 5, .int (-9)])) :: (sn_z 40) :: (.inl (2, [.ref 7, .int (-9)])) :: (sn_z 40) :: (.inl (2, [.ref 9, .int (-9)])) :: (sn_z 40) :: (.inl (2, [.ref 11, .int (-9)])) :: (sn_z 40) :: (.inl (2, [.ref 13, .int (-9)])) :: (sn_z 40) :: (.inr (.inr (1, [some 15, some 17, some 19, some 21]))) :: (.inl (2, [.ref 16, .int (-9)])) :: (sn_z 60) :: (.inl (2, [.ref 18, .int (-9)])) :: (sn_z 60) :: (.inl (2, [.ref 20, .int (-9)])) :: (sn_z 60) :: (.inl (2, [.ref 22, .int (-9)])) :: (sn_z 60) :: (.inr (.inr (2, [some 24, some 28, some 32]))) :: (.inl (0, [.ref 25, .ref 26, .ref 27, .int (-9)])) :: (sn_z 40) :: (sn_z 40) :: (sn_z 40) :: (.inl (0, [.ref 29, .ref 30, .ref 31, .int (-9)])) :: (sn_z 40) :: (sn_z 40) :: (sn_z 40) :: (.inl (0, [.ref 33, .ref 34, .ref 35, .int (-9)])) :: (sn_z 40) :: (sn_z 40) :: (sn_z 40) :: (.inl (1, [.int (0), .ref 37, .ref 38, .ref 39, .ref 40, .ref 41, .ref 42, .int (0), .int (0), .ref 43, .ref 44, .int (0), .ref 45])) :: (sn_z 6) :: (sn_z 6) :: (sn_z 6) :: (sn_z 6) :: (sn_z 6) :: (sn_z 6) :: (sn_z 8) :: (sn_z 8) :: (.inl (0, [.ref 46, .ref 47, .ref 48, .int (0)])) :: (sn_z 40) :: (sn_z 40) :: (sn_z 40) :: (.inl (5, [.ref 36, .ref 50, .ref 51, .int (0), .ref 52, .ref 53, .ref 54, .ref 55, .int (0), .int (0), .int (0), .int (0), .int (0), .int (0)])) :: (sn_z 5) :: (sn_z 5) :: (sn_z 5) :: (sn_z 6) :: (sn_z 64) :: (sn_z 5) :: (.inl (4, [.ref 36, .ref 57, .ref 58, .int (0), .ref 59])) :: (sn_z 4) :: (sn_z 4) :: (sn_z 9) :: (.inl (3, [.int (0), .long (0), .long (1), .int (0), .ref 61])) :: (sn_z 6) :: []) [.ref 60, .ref 0] [1, 0, 0, 0, 0, 0, 0, 1, 0, 0, 0, 0, 2, 0, 0, 0, 0, 0, 0, 0] 61 1211 rfl rfl rfl rfl rfl ?_
  refine sn_put ((.inl (6, [.ref 1, .ref 14, .ref 36, .ref 23, .ref 49, .ref 56, .ref 60])) :: (.inr (.inr (1, [some 2, some 4, some 6, some 8, some 10, some 12]))) :: (.inl (2, [.ref 3, .int (-9)])) :: (sn_z 40) :: (.inl (2, [.ref 5, .int (-9)])) :: (sn_z 40) :: (.inl (2, [.ref 7, .int (-9)])) :: (sn_z 40) :: (.inl (2, [.ref 9, .int (-9)])) :: (sn_z 40) :: (.inl (2, [.ref 11, .int (-9)])) :: (sn_z 40) :: (.inl (2, [.ref 13, .int (-9)])) :: (sn_z 40) :: (.inr (.inr (1, [some 15, some 17, some 19, some 21]))) :: (.inl (2, [.ref 16, .int (-9)])) :: (sn_z 60) :: (.inl (2, [.ref 18, .int (-9)])) :: (sn_z 60) :: (.inl (2, [.ref 20, .int (-9)])) :: (sn_z 60) :: (.inl (2, [.ref 22, .int (-9)])) :: (sn_z 60) :: (.inr (.inr (2, [some 24, some 28, some 32]))) :: (.inl (0, [.ref 25, .ref 26, .ref 27, .int (-9)])) :: (sn_z 40) :: (sn_z 40) :: (sn_z 40) :: (.inl (0, [.ref 29, .ref 30, .ref 31, .int (-9)])) :: (sn_z 40) :: (sn_z 40) :: (sn_z 40) :: (.inl (0, [.ref 33, .ref 34, .ref 35, .int (-9)])) :: (sn_z 40) :: (sn_z 40) :: (sn_z 40) :: (.inl (1, [.int (0), .ref 37, .ref 38, .ref 39, .ref 40, .ref 41, .ref 42, .int (0), .int (0), .ref 43, .ref 44, .int (0), .ref 45])) :: (sn_z 6) :: (sn_z 6) :: (sn_z 6) :: (sn_z 6) :: (sn_z 6) :: (sn_z 6) :: (sn_z 8) :: (sn_z 8) :: (.inl (0, [.ref 46, .ref 47, .ref 48, .int (0)])) :: (sn_z 40) :: (sn_z 40) :: (sn_z 40) :: (.inl (5, [.ref 36, .ref 50, .ref 51, .int (0), .ref 52, .ref 53, .ref 54, .ref 55, .int (0), .int (0), .int (0), .int (0), .int (0), .int (0)])) :: (sn_z 5) :: (sn_z 5) :: (sn_z 5) :: (sn_z 6) :: (sn_z 64) :: (sn_z 5) :: (.inl (4, [.ref 36, .ref 57, .ref 58, .int (0), .ref 59])) :: (sn_z 4) :: (sn_z 4) :: (sn_z 9) :: (.inl (3, [.int (0), .long (0), .long (1), .int (0), .ref 61])) :: (sn_z 6) :: []) ii_ho_init_163 fc_ho_54 rfl rfl rfl (fun _ => rfl) (fun _ => rfl) rfl ?_
  exact sn_end ⟨ii_ho_init_166.1, rfl⟩ rfl rfl rfl ⟨[1, 0, 12], rfl⟩
def sm_W0 : List sm_AE := ((.inl (6, [.ref 1, .ref 14, .ref 36, .ref 23, .ref 49, .ref 56, .ref 60])) :: (.inr (.inr (1, [some 2, some 4, some 6, some 8, some 10, some 12]))) :: (.inl (2, [.ref 3, .int (-9)])) :: (sn_z 40) :: (.inl (2, [.ref 5, .int (-9)])) :: (sn_z 40) :: (.inl (2, [.ref 7, .int (-9)])) :: (sn_z 40) :: (.inl (2, [.ref 9, .int (-9)])) :: (sn_z 40) :: (.inl (2, [.ref 11, .int (-9)])) :: (sn_z 40) :: (.inl (2, [.ref 13, .int (-9)])) :: (sn_z 40) :: (.inr (.inr (1, [some 15, some 17, some 19, some 21]))) :: (.inl (2, [.ref 16, .int (-9)])) :: (sn_z 60) :: (.inl (2, [.ref 18, .int (-9)])) :: (sn_z 60) :: (.inl (2, [.ref 20, .int (-9)])) :: (sn_z 60) :: (.inl (2, [.ref 22, .int (-9)])) :: (sn_z 60) :: (.inr (.inr (2, [some 24, some 28, some 32]))) :: (.inl (0, [.ref 25, .ref 26, .ref 27, .int (-9)])) :: (sn_z 40) :: (sn_z 40) :: (sn_z 40) :: (.inl (0, [.ref 29, .ref 30, .ref 31, .int (-9)])) :: (sn_z 40) :: (sn_z 40) :: (sn_z 40) :: (.inl (0, [.ref 33, .ref 34, .ref 35, .int (-9)])) :: (sn_z 40) :: (sn_z 40) :: (sn_z 40) :: (.inl (1, [.int (0), .ref 37, .ref 38, .ref 39, .ref 40, .ref 41, .ref 42, .int (0), .int (0), .ref 43, .ref 44, .int (0), .ref 45])) :: (sn_z 6) :: (sn_z 6) :: (sn_z 6) :: (sn_z 6) :: (sn_z 6) :: (sn_z 6) :: (sn_z 8) :: (sn_z 8) :: (.inl (0, [.ref 46, .ref 47, .ref 48, .int (0)])) :: (sn_z 40) :: (sn_z 40) :: (sn_z 40) :: (.inl (5, [.ref 36, .ref 50, .ref 51, .int (0), .ref 52, .ref 53, .ref 54, .ref 55, .int (0), .int (0), .int (0), .int (0), .int (0), .int (0)])) :: (sn_z 5) :: (sn_z 5) :: (sn_z 5) :: (sn_z 6) :: (sn_z 64) :: (sn_z 5) :: (.inl (4, [.ref 36, .ref 57, .ref 58, .int (0), .ref 59])) :: (sn_z 4) :: (sn_z 4) :: (sn_z 9) :: (.inl (3, [.int (0), .long (0), .long (1), .int (0), .ref 61])) :: (sn_z 6) :: (sn_z 19) :: (sn_z 31) :: (sn_z 8) :: [])
set_option maxHeartbeats 40000000 in
set_option maxRecDepth 100000 in
theorem sm_prologue : sm_Cn mi_la_law (fun pc L st => pc = 24 ∧ L = [some (.ref 999), some (.ref 0), some (.ref 62), some (.ref 63), some (.ref 64), none, none, none, none, none, none, none, none, none, none, none, none, none, none, none, none, none, none, none, none, none, none, none, none, none, none, none, none, none, none, none, none, none, none, none, none, none, none, none, none] ∧ st = []) false sm_W0 [0, 1, 2] 65 1276 0 (some (.ref 999) :: List.replicate 44 none) [] [] [] 0 0 := by
  refine sn_new (ci := 6) (C := "HerOrders") (T := TX6) (N := 7) [.null, .null, .null, .null, .null, .null, .null] tyX6 ii_la_law_0 rfl sm_inX6 tyX6_ok cq_cl_la_20 cq_in_6 cq_ini_6 (by decide) rfl rfl (by decide) ?_
  refine sn_ch [.inl (6, [.null, .null, .null, .null, .null, .null, .null])] [.ref 0] [] 1 7 rfl rfl rfl rfl rfl ?_
  refine sn_dup ii_la_law_3 ?_
  refine sn_call (Wp := []) (o1 := .inl (6, [.null, .null, .null, .null, .null, .null, .null])) (m2 := 62) 0 0 [] [] [.ref 0] ((.inl (6, [.ref 1, .ref 14, .ref 36, .ref 23, .ref 49, .ref 56, .ref 60])) :: (.inr (.inr (1, [some 2, some 4, some 6, some 8, some 10, some 12]))) :: (.inl (2, [.ref 3, .int (-9)])) :: (sn_z 40) :: (.inl (2, [.ref 5, .int (-9)])) :: (sn_z 40) :: (.inl (2, [.ref 7, .int (-9)])) :: (sn_z 40) :: (.inl (2, [.ref 9, .int (-9)])) :: (sn_z 40) :: (.inl (2, [.ref 11, .int (-9)])) :: (sn_z 40) :: (.inl (2, [.ref 13, .int (-9)])) :: (sn_z 40) :: (.inr (.inr (1, [some 15, some 17, some 19, some 21]))) :: (.inl (2, [.ref 16, .int (-9)])) :: (sn_z 60) :: (.inl (2, [.ref 18, .int (-9)])) :: (sn_z 60) :: (.inl (2, [.ref 20, .int (-9)])) :: (sn_z 60) :: (.inl (2, [.ref 22, .int (-9)])) :: (sn_z 60) :: (.inr (.inr (2, [some 24, some 28, some 32]))) :: (.inl (0, [.ref 25, .ref 26, .ref 27, .int (-9)])) :: (sn_z 40) :: (sn_z 40) :: (sn_z 40) :: (.inl (0, [.ref 29, .ref 30, .ref 31, .int (-9)])) :: (sn_z 40) :: (sn_z 40) :: (sn_z 40) :: (.inl (0, [.ref 33, .ref 34, .ref 35, .int (-9)])) :: (sn_z 40) :: (sn_z 40) :: (sn_z 40) :: (.inl (1, [.int (0), .ref 37, .ref 38, .ref 39, .ref 40, .ref 41, .ref 42, .int (0), .int (0), .ref 43, .ref 44, .int (0), .ref 45])) :: (sn_z 6) :: (sn_z 6) :: (sn_z 6) :: (sn_z 6) :: (sn_z 6) :: (sn_z 6) :: (sn_z 8) :: (sn_z 8) :: (.inl (0, [.ref 46, .ref 47, .ref 48, .int (0)])) :: (sn_z 40) :: (sn_z 40) :: (sn_z 40) :: (.inl (5, [.ref 36, .ref 50, .ref 51, .int (0), .ref 52, .ref 53, .ref 54, .ref 55, .int (0), .int (0), .int (0), .int (0), .int (0), .int (0)])) :: (sn_z 5) :: (sn_z 5) :: (sn_z 5) :: (sn_z 6) :: (sn_z 64) :: (sn_z 5) :: (.inl (4, [.ref 36, .ref 57, .ref 58, .int (0), .ref 59])) :: (sn_z 4) :: (sn_z 4) :: (sn_z 9) :: (.inl (3, [.int (0), .long (0), .long (1), .int (0), .ref 61])) :: (sn_z 6) :: []) rfl rfl ii_la_law_4 ml_la_81 mf_ho_init mh_ho_init rfl rfl (Nat.le_of_ble_eq_true rfl) rfl rfl rfl mk_ho_init_8 (fun _ => rfl) (fun _ _ => rfl) rfl (fun _ _ _ => sm_rl_from (fun i hi => sm_ad3_in hi) rfl (Nat.le_of_ble_eq_true rfl)) (by decide) (by decide) rfl rfl rfl rfl rfl (by decide) ?_
  refine sn_ch ((.inl (6, [.ref 1, .ref 14, .ref 36, .ref 23, .ref 49, .ref 56, .ref 60])) :: (.inr (.inr (1, [some 2, some 4, some 6, some 8, some 10, some 12]))) :: (.inl (2, [.ref 3, .int (-9)])) :: (sn_z 40) :: (.inl (2, [.ref 5, .int (-9)])) :: (sn_z 40) :: (.inl (2, [.ref 7, .int (-9)])) :: (sn_z 40) :: (.inl (2, [.ref 9, .int (-9)])) :: (sn_z 40) :: (.inl (2, [.ref 11, .int (-9)])) :: (sn_z 40) :: (.inl (2, [.ref 13, .int (-9)])) :: (sn_z 40) :: (.inr (.inr (1, [some 15, some 17, some 19, some 21]))) :: (.inl (2, [.ref 16, .int (-9)])) :: (sn_z 60) :: (.inl (2, [.ref 18, .int (-9)])) :: (sn_z 60) :: (.inl (2, [.ref 20, .int (-9)])) :: (sn_z 60) :: (.inl (2, [.ref 22, .int (-9)])) :: (sn_z 60) :: (.inr (.inr (2, [some 24, some 28, some 32]))) :: (.inl (0, [.ref 25, .ref 26, .ref 27, .int (-9)])) :: (sn_z 40) :: (sn_z 40) :: (sn_z 40) :: (.inl (0, [.ref 29, .ref 30, .ref 31, .int (-9)])) :: (sn_z 40) :: (sn_z 40) :: (sn_z 40) :: (.inl (0, [.ref 33, .ref 34, .ref 35, .int (-9)])) :: (sn_z 40) :: (sn_z 40) :: (sn_z 40) :: (.inl (1, [.int (0), .ref 37, .ref 38, .ref 39, .ref 40, .ref 41, .ref 42, .int (0), .int (0), .ref 43, .ref 44, .int (0), .ref 45])) :: (sn_z 6) :: (sn_z 6) :: (sn_z 6) :: (sn_z 6) :: (sn_z 6) :: (sn_z 6) :: (sn_z 8) :: (sn_z 8) :: (.inl (0, [.ref 46, .ref 47, .ref 48, .int (0)])) :: (sn_z 40) :: (sn_z 40) :: (sn_z 40) :: (.inl (5, [.ref 36, .ref 50, .ref 51, .int (0), .ref 52, .ref 53, .ref 54, .ref 55, .int (0), .int (0), .int (0), .int (0), .int (0), .int (0)])) :: (sn_z 5) :: (sn_z 5) :: (sn_z 5) :: (sn_z 6) :: (sn_z 64) :: (sn_z 5) :: (.inl (4, [.ref 36, .ref 57, .ref 58, .int (0), .ref 59])) :: (sn_z 4) :: (sn_z 4) :: (sn_z 9) :: (.inl (3, [.int (0), .long (0), .long (1), .int (0), .ref 61])) :: (sn_z 6) :: []) [.ref 0] [0, 1, 2] 62 1218 rfl rfl rfl rfl rfl ?_
  refine sn_astore_n [some (.ref 999), some (.ref 0), none, none, none, none, none, none, none, none, none, none, none, none, none, none, none, none, none, none, none, none, none, none, none, none, none, none, none, none, none, none, none, none, none, none, none, none, none, none, none, none, none, none, none] ii_la_law_7 rfl rfl ?_
  refine sn_bipush (19) ii_la_law_8 (by decide) ?_
  refine sn_newa (N := 19) ii_la_law_10 (by decide) (by decide) (by decide) rfl (by decide) cq_arr ?_
  refine sn_ch ((.inl (6, [.ref 1, .ref 14, .ref 36, .ref 23, .ref 49, .ref 56, .ref 60])) :: (.inr (.inr (1, [some 2, some 4, some 6, some 8, some 10, some 12]))) :: (.inl (2, [.ref 3, .int (-9)])) :: (sn_z 40) :: (.inl (2, [.ref 5, .int (-9)])) :: (sn_z 40) :: (.inl (2, [.ref 7, .int (-9)])) :: (sn_z 40) :: (.inl (2, [.ref 9, .int (-9)])) :: (sn_z 40) :: (.inl (2, [.ref 11, .int (-9)])) :: (sn_z 40) :: (.inl (2, [.ref 13, .int (-9)])) :: (sn_z 40) :: (.inr (.inr (1, [some 15, some 17, some 19, some 21]))) :: (.inl (2, [.ref 16, .int (-9)])) :: (sn_z 60) :: (.inl (2, [.ref 18, .int (-9)])) :: (sn_z 60) :: (.inl (2, [.ref 20, .int (-9)])) :: (sn_z 60) :: (.inl (2, [.ref 22, .int (-9)])) :: (sn_z 60) :: (.inr (.inr (2, [some 24, some 28, some 32]))) :: (.inl (0, [.ref 25, .ref 26, .ref 27, .int (-9)])) :: (sn_z 40) :: (sn_z 40) :: (sn_z 40) :: (.inl (0, [.ref 29, .ref 30, .ref 31, .int (-9)])) :: (sn_z 40) :: (sn_z 40) :: (sn_z 40) :: (.inl (0, [.ref 33, .ref 34, .ref 35, .int (-9)])) :: (sn_z 40) :: (sn_z 40) :: (sn_z 40) :: (.inl (1, [.int (0), .ref 37, .ref 38, .ref 39, .ref 40, .ref 41, .ref 42, .int (0), .int (0), .ref 43, .ref 44, .int (0), .ref 45])) :: (sn_z 6) :: (sn_z 6) :: (sn_z 6) :: (sn_z 6) :: (sn_z 6) :: (sn_z 6) :: (sn_z 8) :: (sn_z 8) :: (.inl (0, [.ref 46, .ref 47, .ref 48, .int (0)])) :: (sn_z 40) :: (sn_z 40) :: (sn_z 40) :: (.inl (5, [.ref 36, .ref 50, .ref 51, .int (0), .ref 52, .ref 53, .ref 54, .ref 55, .int (0), .int (0), .int (0), .int (0), .int (0), .int (0)])) :: (sn_z 5) :: (sn_z 5) :: (sn_z 5) :: (sn_z 6) :: (sn_z 64) :: (sn_z 5) :: (.inl (4, [.ref 36, .ref 57, .ref 58, .int (0), .ref 59])) :: (sn_z 4) :: (sn_z 4) :: (sn_z 9) :: (.inl (3, [.int (0), .long (0), .long (1), .int (0), .ref 61])) :: (sn_z 6) :: (sn_z 19) :: []) [.ref 62] [0, 1, 2, 0] 63 1237 rfl rfl rfl rfl rfl ?_
  refine sn_astore_n [some (.ref 999), some (.ref 0), some (.ref 62), none, none, none, none, none, none, none, none, none, none, none, none, none, none, none, none, none, none, none, none, none, none, none, none, none, none, none, none, none, none, none, none, none, none, none, none, none, none, none, none, none, none] ii_la_law_12 rfl rfl ?_
  refine sn_bipush (31) ii_la_law_13 (by decide) ?_
  refine sn_newa (N := 31) ii_la_law_15 (by decide) (by decide) (by decide) rfl (by decide) cq_arr ?_
  refine sn_ch ((.inl (6, [.ref 1, .ref 14, .ref 36, .ref 23, .ref 49, .ref 56, .ref 60])) :: (.inr (.inr (1, [some 2, some 4, some 6, some 8, some 10, some 12]))) :: (.inl (2, [.ref 3, .int (-9)])) :: (sn_z 40) :: (.inl (2, [.ref 5, .int (-9)])) :: (sn_z 40) :: (.inl (2, [.ref 7, .int (-9)])) :: (sn_z 40) :: (.inl (2, [.ref 9, .int (-9)])) :: (sn_z 40) :: (.inl (2, [.ref 11, .int (-9)])) :: (sn_z 40) :: (.inl (2, [.ref 13, .int (-9)])) :: (sn_z 40) :: (.inr (.inr (1, [some 15, some 17, some 19, some 21]))) :: (.inl (2, [.ref 16, .int (-9)])) :: (sn_z 60) :: (.inl (2, [.ref 18, .int (-9)])) :: (sn_z 60) :: (.inl (2, [.ref 20, .int (-9)])) :: (sn_z 60) :: (.inl (2, [.ref 22, .int (-9)])) :: (sn_z 60) :: (.inr (.inr (2, [some 24, some 28, some 32]))) :: (.inl (0, [.ref 25, .ref 26, .ref 27, .int (-9)])) :: (sn_z 40) :: (sn_z 40) :: (sn_z 40) :: (.inl (0, [.ref 29, .ref 30, .ref 31, .int (-9)])) :: (sn_z 40) :: (sn_z 40) :: (sn_z 40) :: (.inl (0, [.ref 33, .ref 34, .ref 35, .int (-9)])) :: (sn_z 40) :: (sn_z 40) :: (sn_z 40) :: (.inl (1, [.int (0), .ref 37, .ref 38, .ref 39, .ref 40, .ref 41, .ref 42, .int (0), .int (0), .ref 43, .ref 44, .int (0), .ref 45])) :: (sn_z 6) :: (sn_z 6) :: (sn_z 6) :: (sn_z 6) :: (sn_z 6) :: (sn_z 6) :: (sn_z 8) :: (sn_z 8) :: (.inl (0, [.ref 46, .ref 47, .ref 48, .int (0)])) :: (sn_z 40) :: (sn_z 40) :: (sn_z 40) :: (.inl (5, [.ref 36, .ref 50, .ref 51, .int (0), .ref 52, .ref 53, .ref 54, .ref 55, .int (0), .int (0), .int (0), .int (0), .int (0), .int (0)])) :: (sn_z 5) :: (sn_z 5) :: (sn_z 5) :: (sn_z 6) :: (sn_z 64) :: (sn_z 5) :: (.inl (4, [.ref 36, .ref 57, .ref 58, .int (0), .ref 59])) :: (sn_z 4) :: (sn_z 4) :: (sn_z 9) :: (.inl (3, [.int (0), .long (0), .long (1), .int (0), .ref 61])) :: (sn_z 6) :: (sn_z 19) :: (sn_z 31) :: []) [.ref 63] [0, 1, 2, 0, 0] 64 1268 rfl rfl rfl rfl rfl ?_
  refine sn_astore_n [some (.ref 999), some (.ref 0), some (.ref 62), some (.ref 63), none, none, none, none, none, none, none, none, none, none, none, none, none, none, none, none, none, none, none, none, none, none, none, none, none, none, none, none, none, none, none, none, none, none, none, none, none, none, none, none, none] ii_la_law_17 rfl rfl ?_
  refine sn_bipush (8) ii_la_law_18 (by decide) ?_
  refine sn_newa (N := 8) ii_la_law_20 (by decide) (by decide) (by decide) rfl (by decide) cq_arr ?_
  refine sn_ch ((.inl (6, [.ref 1, .ref 14, .ref 36, .ref 23, .ref 49, .ref 56, .ref 60])) :: (.inr (.inr (1, [some 2, some 4, some 6, some 8, some 10, some 12]))) :: (.inl (2, [.ref 3, .int (-9)])) :: (sn_z 40) :: (.inl (2, [.ref 5, .int (-9)])) :: (sn_z 40) :: (.inl (2, [.ref 7, .int (-9)])) :: (sn_z 40) :: (.inl (2, [.ref 9, .int (-9)])) :: (sn_z 40) :: (.inl (2, [.ref 11, .int (-9)])) :: (sn_z 40) :: (.inl (2, [.ref 13, .int (-9)])) :: (sn_z 40) :: (.inr (.inr (1, [some 15, some 17, some 19, some 21]))) :: (.inl (2, [.ref 16, .int (-9)])) :: (sn_z 60) :: (.inl (2, [.ref 18, .int (-9)])) :: (sn_z 60) :: (.inl (2, [.ref 20, .int (-9)])) :: (sn_z 60) :: (.inl (2, [.ref 22, .int (-9)])) :: (sn_z 60) :: (.inr (.inr (2, [some 24, some 28, some 32]))) :: (.inl (0, [.ref 25, .ref 26, .ref 27, .int (-9)])) :: (sn_z 40) :: (sn_z 40) :: (sn_z 40) :: (.inl (0, [.ref 29, .ref 30, .ref 31, .int (-9)])) :: (sn_z 40) :: (sn_z 40) :: (sn_z 40) :: (.inl (0, [.ref 33, .ref 34, .ref 35, .int (-9)])) :: (sn_z 40) :: (sn_z 40) :: (sn_z 40) :: (.inl (1, [.int (0), .ref 37, .ref 38, .ref 39, .ref 40, .ref 41, .ref 42, .int (0), .int (0), .ref 43, .ref 44, .int (0), .ref 45])) :: (sn_z 6) :: (sn_z 6) :: (sn_z 6) :: (sn_z 6) :: (sn_z 6) :: (sn_z 6) :: (sn_z 8) :: (sn_z 8) :: (.inl (0, [.ref 46, .ref 47, .ref 48, .int (0)])) :: (sn_z 40) :: (sn_z 40) :: (sn_z 40) :: (.inl (5, [.ref 36, .ref 50, .ref 51, .int (0), .ref 52, .ref 53, .ref 54, .ref 55, .int (0), .int (0), .int (0), .int (0), .int (0), .int (0)])) :: (sn_z 5) :: (sn_z 5) :: (sn_z 5) :: (sn_z 6) :: (sn_z 64) :: (sn_z 5) :: (.inl (4, [.ref 36, .ref 57, .ref 58, .int (0), .ref 59])) :: (sn_z 4) :: (sn_z 4) :: (sn_z 9) :: (.inl (3, [.int (0), .long (0), .long (1), .int (0), .ref 61])) :: (sn_z 6) :: (sn_z 19) :: (sn_z 31) :: (sn_z 8) :: []) [.ref 64] [0, 1, 2, 0, 0, 0] 65 1276 rfl rfl rfl rfl rfl ?_
  refine sn_astore [some (.ref 999), some (.ref 0), some (.ref 62), some (.ref 63), some (.ref 64), none, none, none, none, none, none, none, none, none, none, none, none, none, none, none, none, none, none, none, none, none, none, none, none, none, none, none, none, none, none, none, none, none, none, none, none, none, none, none, none] ii_la_law_22 rfl rfl ?_
  exact sn_end ⟨rfl, rfl, rfl⟩ rfl rfl rfl ⟨[0, 1, 2], rfl⟩
