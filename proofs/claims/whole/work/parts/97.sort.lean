/-! pure: of what sort an answer is -/
def RV (P : Value → Prop) (o : sm_R) : Prop := ∀ v w, o = some (v, w) → P v
def vI (v : Value) : Prop := ∃ x : Int32, v = .int x
def vL (v : Value) : Prop := ∃ x : Int64, v = .long x
theorem RV_i {x : Int32} {w : sm_Mem} : RV vI (some (.int x, w)) := fun v w1 h => by
  cases h
  exact ⟨x, rfl⟩
theorem RV_l {x : Int64} {w : sm_Mem} : RV vL (some (.long x, w)) := fun v w1 h => by
  cases h
  exact ⟨x, rfl⟩
theorem RV_n {P : Value → Prop} : RV P none := fun v w h => by cases h
theorem RV_ite {P : Value → Prop} {c : Prop} {d : Decidable c} {a b : sm_R} (ha : RV P a) (hb : RV P b) : RV P (@ite sm_R c d a b) := by
  by_cases h : c
  · rw [if_pos h]; exact ha
  · rw [if_neg h]; exact hb
theorem RV_bind {P : Value → Prop} {α : Type} {o : Option α} {f : α → sm_R} (h : ∀ a, RV P (f a)) : RV P (Option.bind o f) := by
  cases o with
  | none => exact RV_n
  | some a => exact h a
theorem RV_let {P : Value → Prop} {α : Type} {a : α} {f : α → sm_R} (h : RV P (f a)) : RV P (sm_let a f) := h
theorem RV_cI {P : Value → Prop} {o : sm_R} {f : Int32 → sm_Mem → sm_R} (h : ∀ x w, RV P (f x w)) : RV P (sm_cI o f) := by
  unfold sm_cI
  split
  · exact h _ _
  · exact RV_n
theorem RV_cL {P : Value → Prop} {o : sm_R} {f : Int64 → sm_Mem → sm_R} (h : ∀ x w, RV P (f x w)) : RV P (sm_cL o f) := by
  unfold sm_cL
  split
  · exact h _ _
  · exact RV_n
theorem RV_cV {P : Value → Prop} {o : sm_R} {f : sm_Mem → sm_R} (h : ∀ w, RV P (f w)) : RV P (sm_cV o f) := by
  unfold sm_cV
  split
  · exact h _
  · exact RV_n
theorem sw_all {Q : sm_R → Prop} {x : Int32} {lo : Int} {os : List sm_R} {d : sm_R} (hd : Q d) (ho : ∀ o, o ∈ os → Q o) : Q (sm_sw x lo os d) := by
  unfold sm_sw
  split
  · exact hd
  · rw [List.getD_eq_getElem?_getD]
    cases h : os[(x.toInt - lo).toNat]? with
    | none => exact hd
    | some o => exact ho o (List.mem_of_getElem? h)
theorem all_cons {Q : sm_R → Prop} {a : sm_R} {l : List sm_R} (h : Q a) (hl : ∀ o, o ∈ l → Q o) : ∀ o, o ∈ a :: l → Q o := fun o ho => by
  rcases List.mem_cons.mp ho with rfl | ho
  · exact h
  · exact hl o ho
theorem all_nil {Q : sm_R → Prop} : ∀ o, o ∈ ([] : List sm_R) → Q o := fun o ho => by cases ho
theorem RV_sw {P : Value → Prop} {x : Int32} {lo : Int} {os : List sm_R} {d : sm_R} (hd : RV P d) (ho : ∀ o, o ∈ os → RV P o) : RV P (sm_sw x lo os d) := sw_all (Q := RV P) hd ho
theorem RV_cons {P : Value → Prop} {a : sm_R} {l : List sm_R} (h : RV P a) (hl : ∀ o, o ∈ l → RV P o) : ∀ o, o ∈ a :: l → RV P o := all_cons (Q := RV P) h hl
theorem RV_nil {P : Value → Prop} : ∀ o, o ∈ ([] : List sm_R) → RV P o := all_nil (Q := RV P)
theorem rv_ho_house_48 : ∀ (F : Nat) (a3 : Int32) (w : sm_Mem), RV vI (ff_ho_house_48_f F a3 w)
  | 0, _, _ => RV_n
  | F + 1, a3, w => by
    have ih := rv_ho_house_48 F
    rw [ff_ho_house_48_f]
    unfold ff_ho_house_48_b
    repeat' (with_reducible first | apply ih | exact RV_i | exact RV_l | exact RV_n | refine RV_ite ?_ ?_ | refine RV_bind (fun _ => ?_) | refine RV_cI (fun _ _ => ?_) | refine RV_cL (fun _ _ => ?_) | refine RV_cV (fun _ => ?_) | refine RV_let ?_ | refine RV_sw ?_ ?_ | refine RV_cons ?_ ?_ | exact RV_nil)
theorem rv_ho_dumb_15 : ∀ (F : Nat) (a1 : Int32) (w : sm_Mem), RV vI (ff_ho_dumb_15_f F a1 w)
  | 0, _, _ => RV_n
  | F + 1, a1, w => by
    have ih := rv_ho_dumb_15 F
    rw [ff_ho_dumb_15_f]
    unfold ff_ho_dumb_15_b
    repeat' (with_reducible first | apply ih | exact RV_i | exact RV_l | exact RV_n | refine RV_ite ?_ ?_ | refine RV_bind (fun _ => ?_) | refine RV_cI (fun _ _ => ?_) | refine RV_cL (fun _ _ => ?_) | refine RV_cV (fun _ => ?_) | refine RV_let ?_ | refine RV_sw ?_ ?_ | refine RV_cons ?_ ?_ | exact RV_nil)
theorem rv_ho_lots_66 : ∀ (F : Nat) (a1 : Int32) (a3 : Int64) (a5 : Int32) (w : sm_Mem), RV vI (ff_ho_lots_66_f F a1 a3 a5 w)
  | 0, _, _, _, _ => RV_n
  | F + 1, a1, a3, a5, w => by
    have ih := rv_ho_lots_66 F
    rw [ff_ho_lots_66_f]
    unfold ff_ho_lots_66_b
    repeat' (with_reducible first | apply ih | exact RV_i | exact RV_l | exact RV_n | refine RV_ite ?_ ?_ | refine RV_bind (fun _ => ?_) | refine RV_cI (fun _ _ => ?_) | refine RV_cL (fun _ _ => ?_) | refine RV_cV (fun _ => ?_) | refine RV_let ?_ | refine RV_sw ?_ ?_ | refine RV_cons ?_ ?_ | exact RV_nil)
theorem rv_ho_who_15 : ∀ (F : Nat) (a1 : Int32) (a2 : Int32) (a3 : Int32) (w : sm_Mem), RV vI (ff_ho_who_15_f F a1 a2 a3 w)
  | 0, _, _, _, _ => RV_n
  | F + 1, a1, a2, a3, w => by
    have ih := rv_ho_who_15 F
    rw [ff_ho_who_15_f]
    unfold ff_ho_who_15_b 
    repeat' (with_reducible first | apply ih | exact RV_i | exact RV_l | exact RV_n | refine RV_ite ?_ ?_ | refine RV_bind (fun _ => ?_) | refine RV_cI (fun _ _ => ?_) | refine RV_cL (fun _ _ => ?_) | refine RV_cV (fun _ => ?_) | refine RV_let ?_ | refine RV_sw ?_ ?_ | refine RV_cons ?_ ?_ | exact RV_nil)
theorem rv_ho_test_54 {s44 : Int32 → Int32 → Int32 → Int32 → Int32 → sm_Mem → sm_R} (hs : ∀ (a1 : Int32) (a4 : Int32) (a5 : Int32) (a6 : Int32) (a7 : Int32) (w : sm_Mem), RV vI (s44 a1 a4 a5 a6 a7 w)) : ∀ (F : Nat) (a1 : Int32) (a4 : Int32) (a5 : Int32) (a6 : Int32) (a7 : Int32) (a8 : Int32) (w : sm_Mem), RV vI (ff_ho_test_54_f s44 F a1 a4 a5 a6 a7 a8 w)
  | 0, _, _, _, _, _, _, _ => RV_n
  | F + 1, a1, a4, a5, a6, a7, a8, w => by
    have ih := rv_ho_test_54 hs F
    rw [ff_ho_test_54_f]
    unfold ff_ho_test_54_b ff_ho_test_79
    repeat' (with_reducible first | apply ih | apply hs | exact RV_i | exact RV_l | exact RV_n | refine RV_ite ?_ ?_ | refine RV_bind (fun _ => ?_) | refine RV_cI (fun _ _ => ?_) | refine RV_cL (fun _ _ => ?_) | refine RV_cV (fun _ => ?_) | refine RV_let ?_ | refine RV_sw ?_ ?_ | refine RV_cons ?_ ?_ | exact RV_nil)
theorem rv_ho_test_44 : ∀ (F : Nat) (a1 : Int32) (a4 : Int32) (a5 : Int32) (a6 : Int32) (a7 : Int32) (w : sm_Mem), RV vI (ff_ho_test_44_f F a1 a4 a5 a6 a7 w)
  | 0, _, _, _, _, _, _ => RV_n
  | F + 1, a1, a4, a5, a6, a7, w => by
    have ih := rv_ho_test_44 F
    rw [ff_ho_test_44_f]
    unfold ff_ho_test_44_b ff_ho_test_54
    repeat' (with_reducible first | exact rv_ho_test_54 ih _ _ _ _ _ _ _ _ | exact RV_i | exact RV_l | exact RV_n | refine RV_ite ?_ ?_ | refine RV_bind (fun _ => ?_) | refine RV_cI (fun _ _ => ?_) | refine RV_cL (fun _ _ => ?_) | refine RV_cV (fun _ => ?_) | refine RV_let ?_ | refine RV_sw ?_ ?_ | refine RV_cons ?_ ?_ | exact RV_nil)
theorem rv_ho_digest_113 : ∀ (F : Nat) (a1 : Int64) (a3 : Int32) (w : sm_Mem), RV vL (ff_ho_digest_113_f F a1 a3 w)
  | 0, _, _, _ => RV_n
  | F + 1, a1, a3, w => by
    have ih := rv_ho_digest_113 F
    rw [ff_ho_digest_113_f]
    unfold ff_ho_digest_113_b
    repeat' (with_reducible first | apply ih | exact RV_i | exact RV_l | exact RV_n | refine RV_ite ?_ ?_ | refine RV_bind (fun _ => ?_) | refine RV_cI (fun _ _ => ?_) | refine RV_cL (fun _ _ => ?_) | refine RV_cV (fun _ => ?_) | refine RV_let ?_ | refine RV_sw ?_ ?_ | refine RV_cons ?_ ?_ | exact RV_nil)
theorem rv_ho_digest_88 : ∀ (F : Nat) (a1 : Int64) (a3 : Int32) (w : sm_Mem), RV vL (ff_ho_digest_88_f F a1 a3 w)
  | 0, _, _, _ => RV_n
  | F + 1, a1, a3, w => by
    have ih := rv_ho_digest_88 F
    rw [ff_ho_digest_88_f]
    unfold ff_ho_digest_88_b ff_ho_digest_113
    repeat' (with_reducible first | apply ih | exact rv_ho_digest_113 _ _ _ _ | exact RV_i | exact RV_l | exact RV_n | refine RV_ite ?_ ?_ | refine RV_bind (fun _ => ?_) | refine RV_cI (fun _ _ => ?_) | refine RV_cL (fun _ _ => ?_) | refine RV_cV (fun _ => ?_) | refine RV_let ?_ | refine RV_sw ?_ ?_ | refine RV_cons ?_ ?_ | exact RV_nil)
theorem rv_ho_digest_42 : ∀ (F : Nat) (a1 : Int64) (a3 : Int32) (w : sm_Mem), RV vL (ff_ho_digest_42_f F a1 a3 w)
  | 0, _, _, _ => RV_n
  | F + 1, a1, a3, w => by
    have ih := rv_ho_digest_42 F
    rw [ff_ho_digest_42_f]
    unfold ff_ho_digest_42_b ff_ho_digest_77 ff_ho_digest_88
    repeat' (with_reducible first | apply ih | exact rv_ho_digest_88 _ _ _ _ | exact RV_i | exact RV_l | exact RV_n | refine RV_ite ?_ ?_ | refine RV_bind (fun _ => ?_) | refine RV_cI (fun _ _ => ?_) | refine RV_cL (fun _ _ => ?_) | refine RV_cV (fun _ => ?_) | refine RV_let ?_ | refine RV_sw ?_ ?_ | refine RV_cons ?_ ?_ | exact RV_nil)
theorem rv_ho_digest_6 : ∀ (F : Nat) (a1 : Int64) (a3 : Int32) (w : sm_Mem), RV vL (ff_ho_digest_6_f F a1 a3 w)
  | 0, _, _, _ => RV_n
  | F + 1, a1, a3, w => by
    have ih := rv_ho_digest_6 F
    rw [ff_ho_digest_6_f]
    unfold ff_ho_digest_6_b ff_ho_digest_42
    repeat' (with_reducible first | apply ih | exact rv_ho_digest_42 _ _ _ _ | exact RV_i | exact RV_l | exact RV_n | refine RV_ite ?_ ?_ | refine RV_bind (fun _ => ?_) | refine RV_cI (fun _ _ => ?_) | refine RV_cL (fun _ _ => ?_) | refine RV_cV (fun _ => ?_) | refine RV_let ?_ | refine RV_sw ?_ ?_ | refine RV_cons ?_ ?_ | exact RV_nil)
theorem rv_ho_row {a1 a2 : Int32} {w : sm_Mem} : RV vI (ff_ho_row a1 a2 w) := by
  unfold ff_ho_row
  repeat' (with_reducible first | exact RV_i | exact RV_l | exact RV_n | refine RV_ite ?_ ?_ | refine RV_bind (fun _ => ?_) | refine RV_cI (fun _ _ => ?_) | refine RV_cL (fun _ _ => ?_) | refine RV_cV (fun _ => ?_) | refine RV_let ?_ | refine RV_sw ?_ ?_ | refine RV_cons ?_ ?_ | exact RV_nil)
theorem rv_ho_lay {a1 a2 a3 : Int32} {w : sm_Mem} : RV vI (ff_ho_lay a1 a2 a3 w) := by
  unfold ff_ho_lay
  repeat' (with_reducible first | exact RV_i | exact RV_l | exact RV_n | refine RV_ite ?_ ?_ | refine RV_bind (fun _ => ?_) | refine RV_cI (fun _ _ => ?_) | refine RV_cL (fun _ _ => ?_) | refine RV_cV (fun _ => ?_) | refine RV_let ?_ | refine RV_sw ?_ ?_ | refine RV_cons ?_ ?_ | exact RV_nil)
theorem rv_ho_at {a1 a2 : Int32} {w : sm_Mem} : RV vI (ff_ho_at a1 a2 w) := by
  unfold ff_ho_at
  repeat' (with_reducible first | exact RV_i | exact RV_l | exact RV_n | refine RV_ite ?_ ?_ | refine RV_bind (fun _ => ?_) | refine RV_cI (fun _ _ => ?_) | refine RV_cL (fun _ _ => ?_) | refine RV_cV (fun _ => ?_) | refine RV_let ?_ | refine RV_sw ?_ ?_ | refine RV_cons ?_ ?_ | exact RV_nil)
theorem rv_ho_tear {a1 : Int32} {w : sm_Mem} : RV vI (ff_ho_tear a1 w) := by
  unfold ff_ho_tear
  repeat' (with_reducible first | exact RV_i | exact RV_l | exact RV_n | refine RV_ite ?_ ?_ | refine RV_bind (fun _ => ?_) | refine RV_cI (fun _ _ => ?_) | refine RV_cL (fun _ _ => ?_) | refine RV_cV (fun _ => ?_) | refine RV_let ?_ | refine RV_sw ?_ ?_ | refine RV_cons ?_ ?_ | exact RV_nil)
theorem rv_ho_copy {a1 a2 a3 a4 a5 : Int32} {w : sm_Mem} : RV vI (ff_ho_copy a1 a2 a3 a4 a5 w) := by
  unfold ff_ho_copy ff_ho_copy_66 ff_ho_copy_98
  repeat' (with_reducible first | exact RV_i | exact RV_l | exact RV_n | refine RV_ite ?_ ?_ | refine RV_bind (fun _ => ?_) | refine RV_cI (fun _ _ => ?_) | refine RV_cL (fun _ _ => ?_) | refine RV_cV (fun _ => ?_) | refine RV_let ?_ | refine RV_sw ?_ ?_ | refine RV_cons ?_ ?_ | exact RV_nil)
theorem rv_ho_mean {a1 : Int32} {w : sm_Mem} : RV vI (ff_ho_mean a1 w) := by
  unfold ff_ho_mean
  repeat' (with_reducible first | exact RV_i | exact RV_l | exact RV_n | refine RV_ite ?_ ?_ | refine RV_bind (fun _ => ?_) | refine RV_cI (fun _ _ => ?_) | refine RV_cL (fun _ _ => ?_) | refine RV_cV (fun _ => ?_) | refine RV_let ?_ | refine RV_sw ?_ ?_ | refine RV_cons ?_ ?_ | exact RV_nil)
theorem rv_ho_text {a1 a2 : Int32} {w : sm_Mem} : RV vI (ff_ho_text a1 a2 w) := by
  unfold ff_ho_text
  repeat' (with_reducible first | exact RV_i | exact RV_l | exact RV_n | refine RV_ite ?_ ?_ | refine RV_bind (fun _ => ?_) | refine RV_cI (fun _ _ => ?_) | refine RV_cL (fun _ _ => ?_) | refine RV_cV (fun _ => ?_) | refine RV_let ?_ | refine RV_sw ?_ ?_ | refine RV_cons ?_ ?_ | exact RV_nil)
theorem rv_ho_put {a1 a2 a3 : Int32} {w : sm_Mem} : RV vI (ff_ho_put a1 a2 a3 w) := by
  unfold ff_ho_put
  repeat' (with_reducible first | exact RV_i | exact RV_l | exact RV_n | refine RV_ite ?_ ?_ | refine RV_bind (fun _ => ?_) | refine RV_cI (fun _ _ => ?_) | refine RV_cL (fun _ _ => ?_) | refine RV_cV (fun _ => ?_) | refine RV_let ?_ | refine RV_sw ?_ ?_ | refine RV_cons ?_ ?_ | exact RV_nil)
theorem rv_ho_fault {a1 : Int32} {w : sm_Mem} : RV vI (ff_ho_fault a1 w) := by
  unfold ff_ho_fault
  repeat' (with_reducible first | exact RV_i | exact RV_l | exact RV_n | refine RV_ite ?_ ?_ | refine RV_bind (fun _ => ?_) | refine RV_cI (fun _ _ => ?_) | refine RV_cL (fun _ _ => ?_) | refine RV_cV (fun _ => ?_) | refine RV_let ?_ | refine RV_sw ?_ ?_ | refine RV_cons ?_ ?_ | exact RV_nil)
theorem rv_ho_house {a1 : Int32} {w : sm_Mem} : RV vI (ff_ho_house a1 w) := by
  unfold ff_ho_house ff_ho_house_48
  repeat' (with_reducible first | exact rv_ho_house_48 _ _ _ | exact RV_i | exact RV_l | exact RV_n | refine RV_ite ?_ ?_ | refine RV_bind (fun _ => ?_) | refine RV_cI (fun _ _ => ?_) | refine RV_cL (fun _ _ => ?_) | refine RV_cV (fun _ => ?_) | refine RV_let ?_ | refine RV_sw ?_ ?_ | refine RV_cons ?_ ?_ | exact RV_nil)
theorem rv_ho_speaker {a1 a2 : Int32} {w : sm_Mem} : RV vI (ff_ho_speaker a1 a2 w) := by
  unfold ff_ho_speaker
  repeat' (with_reducible first | exact RV_i | exact RV_l | exact RV_n | refine RV_ite ?_ ?_ | refine RV_bind (fun _ => ?_) | refine RV_cI (fun _ _ => ?_) | refine RV_cL (fun _ _ => ?_) | refine RV_cV (fun _ => ?_) | refine RV_let ?_ | refine RV_sw ?_ ?_ | refine RV_cons ?_ ?_ | exact RV_nil)
theorem rv_ho_mark {a1 a2 : Int32} {w : sm_Mem} : RV vI (ff_ho_mark a1 a2 w) := by
  unfold ff_ho_mark
  repeat' (with_reducible first | exact RV_i | exact RV_l | exact RV_n | refine RV_ite ?_ ?_ | refine RV_bind (fun _ => ?_) | refine RV_cI (fun _ _ => ?_) | refine RV_cL (fun _ _ => ?_) | refine RV_cV (fun _ => ?_) | refine RV_let ?_ | refine RV_sw ?_ ?_ | refine RV_cons ?_ ?_ | exact RV_nil)
theorem rv_ho_say {a1 a2 : Int32} {w : sm_Mem} : RV vI (ff_ho_say a1 a2 w) := by
  unfold ff_ho_say
  repeat' (with_reducible first | exact RV_i | exact RV_l | exact RV_n | refine RV_ite ?_ ?_ | refine RV_bind (fun _ => ?_) | refine RV_cI (fun _ _ => ?_) | refine RV_cL (fun _ _ => ?_) | refine RV_cV (fun _ => ?_) | refine RV_let ?_ | refine RV_sw ?_ ?_ | refine RV_cons ?_ ?_ | exact RV_nil)
theorem rv_ho_end  {w : sm_Mem} : RV vI (ff_ho_end  w) := by
  unfold ff_ho_end
  repeat' (with_reducible first | exact RV_i | exact RV_l | exact RV_n | refine RV_ite ?_ ?_ | refine RV_bind (fun _ => ?_) | refine RV_cI (fun _ _ => ?_) | refine RV_cL (fun _ _ => ?_) | refine RV_cV (fun _ => ?_) | refine RV_let ?_ | refine RV_sw ?_ ?_ | refine RV_cons ?_ ?_ | exact RV_nil)
theorem rv_ho_hour  {w : sm_Mem} : RV vI (ff_ho_hour  w) := by
  unfold ff_ho_hour
  repeat' (with_reducible first | exact RV_i | exact RV_l | exact RV_n | refine RV_ite ?_ ?_ | refine RV_bind (fun _ => ?_) | refine RV_cI (fun _ _ => ?_) | refine RV_cL (fun _ _ => ?_) | refine RV_cV (fun _ => ?_) | refine RV_let ?_ | refine RV_sw ?_ ?_ | refine RV_cons ?_ ?_ | exact RV_nil)
theorem rv_ho_walk {a1 a2 : Int32} {w : sm_Mem} : RV vI (ff_ho_walk a1 a2 w) := by
  unfold ff_ho_walk
  repeat' (with_reducible first | exact RV_i | exact RV_l | exact RV_n | refine RV_ite ?_ ?_ | refine RV_bind (fun _ => ?_) | refine RV_cI (fun _ _ => ?_) | refine RV_cL (fun _ _ => ?_) | refine RV_cV (fun _ => ?_) | refine RV_let ?_ | refine RV_sw ?_ ?_ | refine RV_cons ?_ ?_ | exact RV_nil)
theorem rv_ho_undo {a1 : Int32} {w : sm_Mem} : RV vI (ff_ho_undo a1 w) := by
  unfold ff_ho_undo
  repeat' (with_reducible first | exact RV_i | exact RV_l | exact RV_n | refine RV_ite ?_ ?_ | refine RV_bind (fun _ => ?_) | refine RV_cI (fun _ _ => ?_) | refine RV_cL (fun _ _ => ?_) | refine RV_cV (fun _ => ?_) | refine RV_let ?_ | refine RV_sw ?_ ?_ | refine RV_cons ?_ ?_ | exact RV_nil)
theorem rv_ho_keep {a1 : Int32} {w : sm_Mem} : RV vI (ff_ho_keep a1 w) := by
  unfold ff_ho_keep
  repeat' (with_reducible first | exact RV_i | exact RV_l | exact RV_n | refine RV_ite ?_ ?_ | refine RV_bind (fun _ => ?_) | refine RV_cI (fun _ _ => ?_) | refine RV_cL (fun _ _ => ?_) | refine RV_cV (fun _ => ?_) | refine RV_let ?_ | refine RV_sw ?_ ?_ | refine RV_cons ?_ ?_ | exact RV_nil)
theorem rv_ho_on {a1 : Int32} {w : sm_Mem} : RV vI (ff_ho_on a1 w) := by
  unfold ff_ho_on
  repeat' (with_reducible first | exact RV_i | exact RV_l | exact RV_n | refine RV_ite ?_ ?_ | refine RV_bind (fun _ => ?_) | refine RV_cI (fun _ _ => ?_) | refine RV_cL (fun _ _ => ?_) | refine RV_cV (fun _ => ?_) | refine RV_let ?_ | refine RV_sw ?_ ?_ | refine RV_cons ?_ ?_ | exact RV_nil)
theorem rv_ho_who {a1 : Int32} {w : sm_Mem} : RV vI (ff_ho_who a1 w) := by
  unfold ff_ho_who ff_ho_who_15
  repeat' (with_reducible first | exact rv_ho_who_15 _ _ _ _ _ | exact RV_i | exact RV_l | exact RV_n | refine RV_ite ?_ ?_ | refine RV_bind (fun _ => ?_) | refine RV_cI (fun _ _ => ?_) | refine RV_cL (fun _ _ => ?_) | refine RV_cV (fun _ => ?_) | refine RV_let ?_ | refine RV_sw ?_ ?_ | refine RV_cons ?_ ?_ | exact RV_nil)
theorem rv_ho_what {a1 : Int32} {w : sm_Mem} : RV vI (ff_ho_what a1 w) := by
  unfold ff_ho_what
  repeat' (with_reducible first | exact RV_i | exact RV_l | exact RV_n | refine RV_ite ?_ ?_ | refine RV_bind (fun _ => ?_) | refine RV_cI (fun _ _ => ?_) | refine RV_cL (fun _ _ => ?_) | refine RV_cV (fun _ => ?_) | refine RV_let ?_ | refine RV_sw ?_ ?_ | refine RV_cons ?_ ?_ | exact RV_nil)
theorem rv_ho_said {a1 : Int32} {w : sm_Mem} : RV vI (ff_ho_said a1 w) := by
  unfold ff_ho_said
  repeat' (with_reducible first | exact RV_i | exact RV_l | exact RV_n | refine RV_ite ?_ ?_ | refine RV_bind (fun _ => ?_) | refine RV_cI (fun _ _ => ?_) | refine RV_cL (fun _ _ => ?_) | refine RV_cV (fun _ => ?_) | refine RV_let ?_ | refine RV_sw ?_ ?_ | refine RV_cons ?_ ?_ | exact RV_nil)
theorem rv_ho_ways {a1 : Int32} {w : sm_Mem} : RV vI (ff_ho_ways a1 w) := by
  unfold ff_ho_ways
  repeat' (with_reducible first | exact RV_i | exact RV_l | exact RV_n | refine RV_ite ?_ ?_ | refine RV_bind (fun _ => ?_) | refine RV_cI (fun _ _ => ?_) | refine RV_cL (fun _ _ => ?_) | refine RV_cV (fun _ => ?_) | refine RV_let ?_ | refine RV_sw ?_ ?_ | refine RV_cons ?_ ?_ | exact RV_nil)
theorem rv_ho_few {a1 a2 : Int32} {w : sm_Mem} : RV vI (ff_ho_few a1 a2 w) := by
  unfold ff_ho_few
  repeat' (with_reducible first | exact RV_i | exact RV_l | exact RV_n | refine RV_ite ?_ ?_ | refine RV_bind (fun _ => ?_) | refine RV_cI (fun _ _ => ?_) | refine RV_cL (fun _ _ => ?_) | refine RV_cV (fun _ => ?_) | refine RV_let ?_ | refine RV_sw ?_ ?_ | refine RV_cons ?_ ?_ | exact RV_nil)
theorem rv_ho_far {a1 : Int32} {w : sm_Mem} : RV vI (ff_ho_far a1 w) := by
  unfold ff_ho_far
  repeat' (with_reducible first | exact RV_i | exact RV_l | exact RV_n | refine RV_ite ?_ ?_ | refine RV_bind (fun _ => ?_) | refine RV_cI (fun _ _ => ?_) | refine RV_cL (fun _ _ => ?_) | refine RV_cV (fun _ => ?_) | refine RV_let ?_ | refine RV_sw ?_ ?_ | refine RV_cons ?_ ?_ | exact RV_nil)
theorem rv_ho_dumb  {w : sm_Mem} : RV vI (ff_ho_dumb  w) := by
  unfold ff_ho_dumb ff_ho_dumb_15
  repeat' (with_reducible first | exact rv_ho_dumb_15 _ _ _ | exact RV_i | exact RV_l | exact RV_n | refine RV_ite ?_ ?_ | refine RV_bind (fun _ => ?_) | refine RV_cI (fun _ _ => ?_) | refine RV_cL (fun _ _ => ?_) | refine RV_cV (fun _ => ?_) | refine RV_let ?_ | refine RV_sw ?_ ?_ | refine RV_cons ?_ ?_ | exact RV_nil)
theorem rv_ho_longest {a1 : Int32} {w : sm_Mem} : RV vI (ff_ho_longest a1 w) := by
  unfold ff_ho_longest
  repeat' (with_reducible first | exact RV_i | exact RV_l | exact RV_n | refine RV_ite ?_ ?_ | refine RV_bind (fun _ => ?_) | refine RV_cI (fun _ _ => ?_) | refine RV_cL (fun _ _ => ?_) | refine RV_cV (fun _ => ?_) | refine RV_let ?_ | refine RV_sw ?_ ?_ | refine RV_cons ?_ ?_ | exact RV_nil)
theorem rv_ho_heard {a1 : Int32} {w : sm_Mem} : RV vI (ff_ho_heard a1 w) := by
  unfold ff_ho_heard
  repeat' (with_reducible first | exact RV_i | exact RV_l | exact RV_n | refine RV_ite ?_ ?_ | refine RV_bind (fun _ => ?_) | refine RV_cI (fun _ _ => ?_) | refine RV_cL (fun _ _ => ?_) | refine RV_cV (fun _ => ?_) | refine RV_let ?_ | refine RV_sw ?_ ?_ | refine RV_cons ?_ ?_ | exact RV_nil)
theorem rv_ho_sure {a1 : Int32} {w : sm_Mem} : RV vI (ff_ho_sure a1 w) := by
  unfold ff_ho_sure
  repeat' (with_reducible first | exact RV_i | exact RV_l | exact RV_n | refine RV_ite ?_ ?_ | refine RV_bind (fun _ => ?_) | refine RV_cI (fun _ _ => ?_) | refine RV_cL (fun _ _ => ?_) | refine RV_cV (fun _ => ?_) | refine RV_let ?_ | refine RV_sw ?_ ?_ | refine RV_cons ?_ ?_ | exact RV_nil)
theorem rv_ho_kinds {a1 a2 : Int32} {w : sm_Mem} : RV vI (ff_ho_kinds a1 a2 w) := by
  unfold ff_ho_kinds
  repeat' (with_reducible first | exact RV_i | exact RV_l | exact RV_n | refine RV_ite ?_ ?_ | refine RV_bind (fun _ => ?_) | refine RV_cI (fun _ _ => ?_) | refine RV_cL (fun _ _ => ?_) | refine RV_cV (fun _ => ?_) | refine RV_let ?_ | refine RV_sw ?_ ?_ | refine RV_cons ?_ ?_ | exact RV_nil)
theorem rv_ho_test {a1 a2 : Int32} {w : sm_Mem} : RV vI (ff_ho_test a1 a2 w) := by
  unfold ff_ho_test ff_ho_test_44
  repeat' (with_reducible first | exact rv_ho_test_44 _ _ _ _ _ _ _ | exact RV_i | exact RV_l | exact RV_n | refine RV_ite ?_ ?_ | refine RV_bind (fun _ => ?_) | refine RV_cI (fun _ _ => ?_) | refine RV_cL (fun _ _ => ?_) | refine RV_cV (fun _ => ?_) | refine RV_let ?_ | refine RV_sw ?_ ?_ | refine RV_cons ?_ ?_ | exact RV_nil)
theorem rv_ho_fourth {a1 a2 : Int32} {w : sm_Mem} : RV vI (ff_ho_fourth a1 a2 w) := by
  unfold ff_ho_fourth
  repeat' (with_reducible first | exact RV_i | exact RV_l | exact RV_n | refine RV_ite ?_ ?_ | refine RV_bind (fun _ => ?_) | refine RV_cI (fun _ _ => ?_) | refine RV_cL (fun _ _ => ?_) | refine RV_cV (fun _ => ?_) | refine RV_let ?_ | refine RV_sw ?_ ?_ | refine RV_cons ?_ ?_ | exact RV_nil)
theorem rv_ho_off {a1 : Int32} {w : sm_Mem} : RV vI (ff_ho_off a1 w) := by
  unfold ff_ho_off
  repeat' (with_reducible first | exact RV_i | exact RV_l | exact RV_n | refine RV_ite ?_ ?_ | refine RV_bind (fun _ => ?_) | refine RV_cI (fun _ _ => ?_) | refine RV_cL (fun _ _ => ?_) | refine RV_cV (fun _ => ?_) | refine RV_let ?_ | refine RV_sw ?_ ?_ | refine RV_cons ?_ ?_ | exact RV_nil)
theorem rv_ho_struck {a1 : Int32} {w : sm_Mem} : RV vI (ff_ho_struck a1 w) := by
  unfold ff_ho_struck
  repeat' (with_reducible first | exact RV_i | exact RV_l | exact RV_n | refine RV_ite ?_ ?_ | refine RV_bind (fun _ => ?_) | refine RV_cI (fun _ _ => ?_) | refine RV_cL (fun _ _ => ?_) | refine RV_cV (fun _ => ?_) | refine RV_let ?_ | refine RV_sw ?_ ?_ | refine RV_cons ?_ ?_ | exact RV_nil)
theorem rv_ho_odds {a1 a2 : Int32} {w : sm_Mem} : RV vI (ff_ho_odds a1 a2 w) := by
  unfold ff_ho_odds
  repeat' (with_reducible first | exact RV_i | exact RV_l | exact RV_n | refine RV_ite ?_ ?_ | refine RV_bind (fun _ => ?_) | refine RV_cI (fun _ _ => ?_) | refine RV_cL (fun _ _ => ?_) | refine RV_cV (fun _ => ?_) | refine RV_let ?_ | refine RV_sw ?_ ?_ | refine RV_cons ?_ ?_ | exact RV_nil)
theorem rv_ho_mid {a1 a2 : Int32} {w : sm_Mem} : RV vI (ff_ho_mid a1 a2 w) := by
  unfold ff_ho_mid
  repeat' (with_reducible first | exact RV_i | exact RV_l | exact RV_n | refine RV_ite ?_ ?_ | refine RV_bind (fun _ => ?_) | refine RV_cI (fun _ _ => ?_) | refine RV_cL (fun _ _ => ?_) | refine RV_cV (fun _ => ?_) | refine RV_let ?_ | refine RV_sw ?_ ?_ | refine RV_cons ?_ ?_ | exact RV_nil)
theorem rv_ho_lots {a1 a2 : Int32} {w : sm_Mem} : RV vI (ff_ho_lots a1 a2 w) := by
  unfold ff_ho_lots ff_ho_lots_66
  repeat' (with_reducible first | exact rv_ho_lots_66 _ _ _ _ _ | exact RV_i | exact RV_l | exact RV_n | refine RV_ite ?_ ?_ | refine RV_bind (fun _ => ?_) | refine RV_cI (fun _ _ => ?_) | refine RV_cL (fun _ _ => ?_) | refine RV_cV (fun _ => ?_) | refine RV_let ?_ | refine RV_sw ?_ ?_ | refine RV_cons ?_ ?_ | exact RV_nil)
theorem rv_ho_asked  {w : sm_Mem} : RV vI (ff_ho_asked  w) := by
  unfold ff_ho_asked
  repeat' (with_reducible first | exact RV_i | exact RV_l | exact RV_n | refine RV_ite ?_ ?_ | refine RV_bind (fun _ => ?_) | refine RV_cI (fun _ _ => ?_) | refine RV_cL (fun _ _ => ?_) | refine RV_cV (fun _ => ?_) | refine RV_let ?_ | refine RV_sw ?_ ?_ | refine RV_cons ?_ ?_ | exact RV_nil)
theorem rv_ho_upper  {w : sm_Mem} : RV vL (ff_ho_upper  w) := by
  unfold ff_ho_upper
  repeat' (with_reducible first | exact RV_i | exact RV_l | exact RV_n | refine RV_ite ?_ ?_ | refine RV_bind (fun _ => ?_) | refine RV_cI (fun _ _ => ?_) | refine RV_cL (fun _ _ => ?_) | refine RV_cV (fun _ => ?_) | refine RV_let ?_ | refine RV_sw ?_ ?_ | refine RV_cons ?_ ?_ | exact RV_nil)
theorem rv_ho_lower  {w : sm_Mem} : RV vL (ff_ho_lower  w) := by
  unfold ff_ho_lower
  repeat' (with_reducible first | exact RV_i | exact RV_l | exact RV_n | refine RV_ite ?_ ?_ | refine RV_bind (fun _ => ?_) | refine RV_cI (fun _ _ => ?_) | refine RV_cL (fun _ _ => ?_) | refine RV_cV (fun _ => ?_) | refine RV_let ?_ | refine RV_sw ?_ ?_ | refine RV_cons ?_ ?_ | exact RV_nil)
theorem rv_ho_count {a1 : Int32} {w : sm_Mem} : RV vI (ff_ho_count a1 w) := by
  unfold ff_ho_count
  repeat' (with_reducible first | exact RV_i | exact RV_l | exact RV_n | refine RV_ite ?_ ?_ | refine RV_bind (fun _ => ?_) | refine RV_cI (fun _ _ => ?_) | refine RV_cL (fun _ _ => ?_) | refine RV_cV (fun _ => ?_) | refine RV_let ?_ | refine RV_sw ?_ ?_ | refine RV_cons ?_ ?_ | exact RV_nil)
theorem rv_ho_finding  {w : sm_Mem} : RV vI (ff_ho_finding  w) := by
  unfold ff_ho_finding
  repeat' (with_reducible first | exact RV_i | exact RV_l | exact RV_n | refine RV_ite ?_ ?_ | refine RV_bind (fun _ => ?_) | refine RV_cI (fun _ _ => ?_) | refine RV_cL (fun _ _ => ?_) | refine RV_cV (fun _ => ?_) | refine RV_let ?_ | refine RV_sw ?_ ?_ | refine RV_cons ?_ ?_ | exact RV_nil)
theorem rv_ho_findings {a1 : Int32} {w : sm_Mem} : RV vI (ff_ho_findings a1 w) := by
  unfold ff_ho_findings
  repeat' (with_reducible first | exact RV_i | exact RV_l | exact RV_n | refine RV_ite ?_ ?_ | refine RV_bind (fun _ => ?_) | refine RV_cI (fun _ _ => ?_) | refine RV_cL (fun _ _ => ?_) | refine RV_cV (fun _ => ?_) | refine RV_let ?_ | refine RV_sw ?_ ?_ | refine RV_cons ?_ ?_ | exact RV_nil)
theorem rv_ho_digest  {w : sm_Mem} : RV vL (ff_ho_digest  w) := by
  unfold ff_ho_digest ff_ho_digest_6
  repeat' (with_reducible first | exact rv_ho_digest_6 _ _ _ _ | exact RV_i | exact RV_l | exact RV_n | refine RV_ite ?_ ?_ | refine RV_bind (fun _ => ?_) | refine RV_cI (fun _ _ => ?_) | refine RV_cL (fun _ _ => ?_) | refine RV_cV (fun _ => ?_) | refine RV_let ?_ | refine RV_sw ?_ ?_ | refine RV_cons ?_ ?_ | exact RV_nil)
