/-! the memory at first; the law from its entry on, by what its function says -/
def sm_mI (Wd : List sm_AE) (a b : Nat) : Int32 := match Wd[a]? with
  | some (.inl (_, fs)) => (match fs[b]? with
    | some (.int x) => x
    | _ => 0)
  | some (.inr (.inl (_, f))) => f b
  | _ => 0
def sm_mL (Wd : List sm_AE) (a b : Nat) : Int64 := match Wd[a]? with
  | some (.inl (_, fs)) => (match fs[b]? with
    | some (.long x) => x
    | _ => 0)
  | _ => 0
def sm_m0 : sm_Mem := (sm_mI sm_W0, sm_mL sm_W0)
def sm_all2 (w : sm_Mem) : Nat → List sm_SH → List sm_AE → Prop
  | k, sh :: S, x :: Wd => (∀ (ad : Nat → Nat) (ca : Nat → ClassId), sm_cell ad ca w k sh = sm_dcell ad ca x) ∧ sm_all2 w (k + 1) S Wd
  | _, [], [] => True
  | _, _, _ => False
theorem sm_all2_eq {w : sm_Mem} {ad : Nat → Nat} {ca : Nat → ClassId} : ∀ (S : List sm_SH) (Wd : List sm_AE) (k : Nat), sm_all2 w k S Wd → S.mapIdx (fun i sh => (ad (k + i), sm_cell ad ca w (k + i) sh)) = sm_dfrom ad ca k Wd
  | [], [], k, _ => rfl
  | [], y :: Wd, k, h => h.elim
  | sh :: S, [], k, h => h.elim
  | sh :: S, y :: Wd, k, h => by
    obtain ⟨h1, h2⟩ := h
    have ih := sm_all2_eq (ad := ad) (ca := ca) S Wd (k + 1) h2
    rw [List.mapIdx_cons, sm_dfrom, ← ih, Nat.add_zero, h1 ad ca]
    refine congrArg (fun q => _ :: q) ?_
    refine congrArg (fun f => S.mapIdx f) ?_
    funext i sh
    rw [Nat.add_assoc, Nat.add_comm 1 i]
theorem sm_rids {w : sm_Mem} {k t : Nat} {ids : List Nat} (ad : Nat → Nat) (ca : Nat → ClassId) : sm_cell ad ca w k (.inr (.inr (t, ids))) = sm_dcell ad ca (.inr (.inr (t, ids.map some))) := by
  have e : (fun (j : Nat) => (ids[j]?).map ad) = (fun j => (((ids.map some)[j]?).getD none).map ad) := by
    funext j
    rw [List.getElem?_map]
    cases ids[j]? <;> rfl
  simp only [sm_cell, sm_dcell, List.length_map, e]
theorem sm_all2_cons {w : sm_Mem} {k k1 : Nat} {sh : sm_SH} {x : sm_AE} {S : List sm_SH} {Wd : List sm_AE} (h1 : ∀ (ad : Nat → Nat) (ca : Nat → ClassId), sm_cell ad ca w k sh = sm_dcell ad ca x) (h2 : sm_all2 w k1 S Wd) (hk : k + 1 = k1) : sm_all2 w k (sh :: S) (x :: Wd) := by
  subst hk
  exact ⟨h1, h2⟩
set_option maxRecDepth 100000 in
theorem sm_first_0 : ∀ (ad : Nat → Nat) (ca : Nat → ClassId), sm_cell ad ca sm_m0 0 (.inl (6, [(2, 1), (2, 14), (2, 36), (2, 23), (2, 49), (2, 56), (2, 60)])) = sm_dcell ad ca (.inl (6, [.ref 1, .ref 14, .ref 36, .ref 23, .ref 49, .ref 56, .ref 60])) := fun _ _ => rfl
set_option maxRecDepth 100000 in
theorem sm_first_1 : ∀ (ad : Nat → Nat) (ca : Nat → ClassId), sm_cell ad ca sm_m0 1 (.inr (.inr (1, [2, 4, 6, 8, 10, 12]))) = sm_dcell ad ca (.inr (.inr (1, [some 2, some 4, some 6, some 8, some 10, some 12]))) := sm_rids
set_option maxRecDepth 100000 in
theorem sm_first_2 : ∀ (ad : Nat → Nat) (ca : Nat → ClassId), sm_cell ad ca sm_m0 2 (.inl (2, [(2, 3), (0, 0)])) = sm_dcell ad ca (.inl (2, [.ref 3, .int (-9)])) := fun _ _ => rfl
set_option maxRecDepth 100000 in
theorem sm_first_3 : ∀ (ad : Nat → Nat) (ca : Nat → ClassId), sm_cell ad ca sm_m0 3 (.inr (.inl 40)) = sm_dcell ad ca (sn_z 40) := fun _ _ => rfl
set_option maxRecDepth 100000 in
theorem sm_first_4 : ∀ (ad : Nat → Nat) (ca : Nat → ClassId), sm_cell ad ca sm_m0 4 (.inl (2, [(2, 5), (0, 0)])) = sm_dcell ad ca (.inl (2, [.ref 5, .int (-9)])) := fun _ _ => rfl
set_option maxRecDepth 100000 in
theorem sm_first_5 : ∀ (ad : Nat → Nat) (ca : Nat → ClassId), sm_cell ad ca sm_m0 5 (.inr (.inl 40)) = sm_dcell ad ca (sn_z 40) := fun _ _ => rfl
set_option maxRecDepth 100000 in
theorem sm_first_6 : ∀ (ad : Nat → Nat) (ca : Nat → ClassId), sm_cell ad ca sm_m0 6 (.inl (2, [(2, 7), (0, 0)])) = sm_dcell ad ca (.inl (2, [.ref 7, .int (-9)])) := fun _ _ => rfl
set_option maxRecDepth 100000 in
theorem sm_first_7 : ∀ (ad : Nat → Nat) (ca : Nat → ClassId), sm_cell ad ca sm_m0 7 (.inr (.inl 40)) = sm_dcell ad ca (sn_z 40) := fun _ _ => rfl
set_option maxRecDepth 100000 in
theorem sm_first_8 : ∀ (ad : Nat → Nat) (ca : Nat → ClassId), sm_cell ad ca sm_m0 8 (.inl (2, [(2, 9), (0, 0)])) = sm_dcell ad ca (.inl (2, [.ref 9, .int (-9)])) := fun _ _ => rfl
set_option maxRecDepth 100000 in
theorem sm_first_9 : ∀ (ad : Nat → Nat) (ca : Nat → ClassId), sm_cell ad ca sm_m0 9 (.inr (.inl 40)) = sm_dcell ad ca (sn_z 40) := fun _ _ => rfl
set_option maxRecDepth 100000 in
theorem sm_first_10 : ∀ (ad : Nat → Nat) (ca : Nat → ClassId), sm_cell ad ca sm_m0 10 (.inl (2, [(2, 11), (0, 0)])) = sm_dcell ad ca (.inl (2, [.ref 11, .int (-9)])) := fun _ _ => rfl
set_option maxRecDepth 100000 in
theorem sm_first_11 : ∀ (ad : Nat → Nat) (ca : Nat → ClassId), sm_cell ad ca sm_m0 11 (.inr (.inl 40)) = sm_dcell ad ca (sn_z 40) := fun _ _ => rfl
set_option maxRecDepth 100000 in
theorem sm_first_12 : ∀ (ad : Nat → Nat) (ca : Nat → ClassId), sm_cell ad ca sm_m0 12 (.inl (2, [(2, 13), (0, 0)])) = sm_dcell ad ca (.inl (2, [.ref 13, .int (-9)])) := fun _ _ => rfl
set_option maxRecDepth 100000 in
theorem sm_first_13 : ∀ (ad : Nat → Nat) (ca : Nat → ClassId), sm_cell ad ca sm_m0 13 (.inr (.inl 40)) = sm_dcell ad ca (sn_z 40) := fun _ _ => rfl
set_option maxRecDepth 100000 in
theorem sm_first_14 : ∀ (ad : Nat → Nat) (ca : Nat → ClassId), sm_cell ad ca sm_m0 14 (.inr (.inr (1, [15, 17, 19, 21]))) = sm_dcell ad ca (.inr (.inr (1, [some 15, some 17, some 19, some 21]))) := sm_rids
set_option maxRecDepth 100000 in
theorem sm_first_15 : ∀ (ad : Nat → Nat) (ca : Nat → ClassId), sm_cell ad ca sm_m0 15 (.inl (2, [(2, 16), (0, 0)])) = sm_dcell ad ca (.inl (2, [.ref 16, .int (-9)])) := fun _ _ => rfl
set_option maxRecDepth 100000 in
theorem sm_first_16 : ∀ (ad : Nat → Nat) (ca : Nat → ClassId), sm_cell ad ca sm_m0 16 (.inr (.inl 60)) = sm_dcell ad ca (sn_z 60) := fun _ _ => rfl
set_option maxRecDepth 100000 in
theorem sm_first_17 : ∀ (ad : Nat → Nat) (ca : Nat → ClassId), sm_cell ad ca sm_m0 17 (.inl (2, [(2, 18), (0, 0)])) = sm_dcell ad ca (.inl (2, [.ref 18, .int (-9)])) := fun _ _ => rfl
set_option maxRecDepth 100000 in
theorem sm_first_18 : ∀ (ad : Nat → Nat) (ca : Nat → ClassId), sm_cell ad ca sm_m0 18 (.inr (.inl 60)) = sm_dcell ad ca (sn_z 60) := fun _ _ => rfl
set_option maxRecDepth 100000 in
theorem sm_first_19 : ∀ (ad : Nat → Nat) (ca : Nat → ClassId), sm_cell ad ca sm_m0 19 (.inl (2, [(2, 20), (0, 0)])) = sm_dcell ad ca (.inl (2, [.ref 20, .int (-9)])) := fun _ _ => rfl
set_option maxRecDepth 100000 in
theorem sm_first_20 : ∀ (ad : Nat → Nat) (ca : Nat → ClassId), sm_cell ad ca sm_m0 20 (.inr (.inl 60)) = sm_dcell ad ca (sn_z 60) := fun _ _ => rfl
set_option maxRecDepth 100000 in
theorem sm_first_21 : ∀ (ad : Nat → Nat) (ca : Nat → ClassId), sm_cell ad ca sm_m0 21 (.inl (2, [(2, 22), (0, 0)])) = sm_dcell ad ca (.inl (2, [.ref 22, .int (-9)])) := fun _ _ => rfl
set_option maxRecDepth 100000 in
theorem sm_first_22 : ∀ (ad : Nat → Nat) (ca : Nat → ClassId), sm_cell ad ca sm_m0 22 (.inr (.inl 60)) = sm_dcell ad ca (sn_z 60) := fun _ _ => rfl
set_option maxRecDepth 100000 in
theorem sm_first_23 : ∀ (ad : Nat → Nat) (ca : Nat → ClassId), sm_cell ad ca sm_m0 23 (.inr (.inr (2, [24, 28, 32]))) = sm_dcell ad ca (.inr (.inr (2, [some 24, some 28, some 32]))) := sm_rids
set_option maxRecDepth 100000 in
theorem sm_first_24 : ∀ (ad : Nat → Nat) (ca : Nat → ClassId), sm_cell ad ca sm_m0 24 (.inl (0, [(2, 25), (2, 26), (2, 27), (0, 0)])) = sm_dcell ad ca (.inl (0, [.ref 25, .ref 26, .ref 27, .int (-9)])) := fun _ _ => rfl
set_option maxRecDepth 100000 in
theorem sm_first_25 : ∀ (ad : Nat → Nat) (ca : Nat → ClassId), sm_cell ad ca sm_m0 25 (.inr (.inl 40)) = sm_dcell ad ca (sn_z 40) := fun _ _ => rfl
set_option maxRecDepth 100000 in
theorem sm_first_26 : ∀ (ad : Nat → Nat) (ca : Nat → ClassId), sm_cell ad ca sm_m0 26 (.inr (.inl 40)) = sm_dcell ad ca (sn_z 40) := fun _ _ => rfl
set_option maxRecDepth 100000 in
theorem sm_first_27 : ∀ (ad : Nat → Nat) (ca : Nat → ClassId), sm_cell ad ca sm_m0 27 (.inr (.inl 40)) = sm_dcell ad ca (sn_z 40) := fun _ _ => rfl
set_option maxRecDepth 100000 in
theorem sm_first_28 : ∀ (ad : Nat → Nat) (ca : Nat → ClassId), sm_cell ad ca sm_m0 28 (.inl (0, [(2, 29), (2, 30), (2, 31), (0, 0)])) = sm_dcell ad ca (.inl (0, [.ref 29, .ref 30, .ref 31, .int (-9)])) := fun _ _ => rfl
set_option maxRecDepth 100000 in
theorem sm_first_29 : ∀ (ad : Nat → Nat) (ca : Nat → ClassId), sm_cell ad ca sm_m0 29 (.inr (.inl 40)) = sm_dcell ad ca (sn_z 40) := fun _ _ => rfl
set_option maxRecDepth 100000 in
theorem sm_first_30 : ∀ (ad : Nat → Nat) (ca : Nat → ClassId), sm_cell ad ca sm_m0 30 (.inr (.inl 40)) = sm_dcell ad ca (sn_z 40) := fun _ _ => rfl
set_option maxRecDepth 100000 in
theorem sm_first_31 : ∀ (ad : Nat → Nat) (ca : Nat → ClassId), sm_cell ad ca sm_m0 31 (.inr (.inl 40)) = sm_dcell ad ca (sn_z 40) := fun _ _ => rfl
set_option maxRecDepth 100000 in
theorem sm_first_32 : ∀ (ad : Nat → Nat) (ca : Nat → ClassId), sm_cell ad ca sm_m0 32 (.inl (0, [(2, 33), (2, 34), (2, 35), (0, 0)])) = sm_dcell ad ca (.inl (0, [.ref 33, .ref 34, .ref 35, .int (-9)])) := fun _ _ => rfl
set_option maxRecDepth 100000 in
theorem sm_first_33 : ∀ (ad : Nat → Nat) (ca : Nat → ClassId), sm_cell ad ca sm_m0 33 (.inr (.inl 40)) = sm_dcell ad ca (sn_z 40) := fun _ _ => rfl
set_option maxRecDepth 100000 in
theorem sm_first_34 : ∀ (ad : Nat → Nat) (ca : Nat → ClassId), sm_cell ad ca sm_m0 34 (.inr (.inl 40)) = sm_dcell ad ca (sn_z 40) := fun _ _ => rfl
set_option maxRecDepth 100000 in
theorem sm_first_35 : ∀ (ad : Nat → Nat) (ca : Nat → ClassId), sm_cell ad ca sm_m0 35 (.inr (.inl 40)) = sm_dcell ad ca (sn_z 40) := fun _ _ => rfl
set_option maxRecDepth 100000 in
theorem sm_first_36 : ∀ (ad : Nat → Nat) (ca : Nat → ClassId), sm_cell ad ca sm_m0 36 (.inl (1, [(0, 0), (2, 37), (2, 38), (2, 39), (2, 40), (2, 41), (2, 42), (0, 0), (0, 0), (2, 43), (2, 44), (0, 0), (2, 45)])) = sm_dcell ad ca (.inl (1, [.int (0), .ref 37, .ref 38, .ref 39, .ref 40, .ref 41, .ref 42, .int (0), .int (0), .ref 43, .ref 44, .int (0), .ref 45])) := fun _ _ => rfl
set_option maxRecDepth 100000 in
theorem sm_first_37 : ∀ (ad : Nat → Nat) (ca : Nat → ClassId), sm_cell ad ca sm_m0 37 (.inr (.inl 6)) = sm_dcell ad ca (sn_z 6) := fun _ _ => rfl
set_option maxRecDepth 100000 in
theorem sm_first_38 : ∀ (ad : Nat → Nat) (ca : Nat → ClassId), sm_cell ad ca sm_m0 38 (.inr (.inl 6)) = sm_dcell ad ca (sn_z 6) := fun _ _ => rfl
set_option maxRecDepth 100000 in
theorem sm_first_39 : ∀ (ad : Nat → Nat) (ca : Nat → ClassId), sm_cell ad ca sm_m0 39 (.inr (.inl 6)) = sm_dcell ad ca (sn_z 6) := fun _ _ => rfl
set_option maxRecDepth 100000 in
theorem sm_first_40 : ∀ (ad : Nat → Nat) (ca : Nat → ClassId), sm_cell ad ca sm_m0 40 (.inr (.inl 6)) = sm_dcell ad ca (sn_z 6) := fun _ _ => rfl
set_option maxRecDepth 100000 in
theorem sm_first_41 : ∀ (ad : Nat → Nat) (ca : Nat → ClassId), sm_cell ad ca sm_m0 41 (.inr (.inl 6)) = sm_dcell ad ca (sn_z 6) := fun _ _ => rfl
set_option maxRecDepth 100000 in
theorem sm_first_42 : ∀ (ad : Nat → Nat) (ca : Nat → ClassId), sm_cell ad ca sm_m0 42 (.inr (.inl 6)) = sm_dcell ad ca (sn_z 6) := fun _ _ => rfl
set_option maxRecDepth 100000 in
theorem sm_first_43 : ∀ (ad : Nat → Nat) (ca : Nat → ClassId), sm_cell ad ca sm_m0 43 (.inr (.inl 8)) = sm_dcell ad ca (sn_z 8) := fun _ _ => rfl
set_option maxRecDepth 100000 in
theorem sm_first_44 : ∀ (ad : Nat → Nat) (ca : Nat → ClassId), sm_cell ad ca sm_m0 44 (.inr (.inl 8)) = sm_dcell ad ca (sn_z 8) := fun _ _ => rfl
set_option maxRecDepth 100000 in
theorem sm_first_45 : ∀ (ad : Nat → Nat) (ca : Nat → ClassId), sm_cell ad ca sm_m0 45 (.inl (0, [(2, 46), (2, 47), (2, 48), (0, 0)])) = sm_dcell ad ca (.inl (0, [.ref 46, .ref 47, .ref 48, .int (0)])) := fun _ _ => rfl
set_option maxRecDepth 100000 in
theorem sm_first_46 : ∀ (ad : Nat → Nat) (ca : Nat → ClassId), sm_cell ad ca sm_m0 46 (.inr (.inl 40)) = sm_dcell ad ca (sn_z 40) := fun _ _ => rfl
set_option maxRecDepth 100000 in
theorem sm_first_47 : ∀ (ad : Nat → Nat) (ca : Nat → ClassId), sm_cell ad ca sm_m0 47 (.inr (.inl 40)) = sm_dcell ad ca (sn_z 40) := fun _ _ => rfl
set_option maxRecDepth 100000 in
theorem sm_first_48 : ∀ (ad : Nat → Nat) (ca : Nat → ClassId), sm_cell ad ca sm_m0 48 (.inr (.inl 40)) = sm_dcell ad ca (sn_z 40) := fun _ _ => rfl
set_option maxRecDepth 100000 in
theorem sm_first_49 : ∀ (ad : Nat → Nat) (ca : Nat → ClassId), sm_cell ad ca sm_m0 49 (.inl (5, [(2, 36), (2, 50), (2, 51), (0, 0), (2, 52), (2, 53), (2, 54), (2, 55), (0, 0), (0, 0), (0, 0), (0, 0), (0, 0), (0, 0)])) = sm_dcell ad ca (.inl (5, [.ref 36, .ref 50, .ref 51, .int (0), .ref 52, .ref 53, .ref 54, .ref 55, .int (0), .int (0), .int (0), .int (0), .int (0), .int (0)])) := fun _ _ => rfl
set_option maxRecDepth 100000 in
theorem sm_first_50 : ∀ (ad : Nat → Nat) (ca : Nat → ClassId), sm_cell ad ca sm_m0 50 (.inr (.inl 5)) = sm_dcell ad ca (sn_z 5) := fun _ _ => rfl
set_option maxRecDepth 100000 in
theorem sm_first_51 : ∀ (ad : Nat → Nat) (ca : Nat → ClassId), sm_cell ad ca sm_m0 51 (.inr (.inl 5)) = sm_dcell ad ca (sn_z 5) := fun _ _ => rfl
set_option maxRecDepth 100000 in
theorem sm_first_52 : ∀ (ad : Nat → Nat) (ca : Nat → ClassId), sm_cell ad ca sm_m0 52 (.inr (.inl 5)) = sm_dcell ad ca (sn_z 5) := fun _ _ => rfl
set_option maxRecDepth 100000 in
theorem sm_first_53 : ∀ (ad : Nat → Nat) (ca : Nat → ClassId), sm_cell ad ca sm_m0 53 (.inr (.inl 6)) = sm_dcell ad ca (sn_z 6) := fun _ _ => rfl
set_option maxRecDepth 100000 in
theorem sm_first_54 : ∀ (ad : Nat → Nat) (ca : Nat → ClassId), sm_cell ad ca sm_m0 54 (.inr (.inl 64)) = sm_dcell ad ca (sn_z 64) := fun _ _ => rfl
set_option maxRecDepth 100000 in
theorem sm_first_55 : ∀ (ad : Nat → Nat) (ca : Nat → ClassId), sm_cell ad ca sm_m0 55 (.inr (.inl 5)) = sm_dcell ad ca (sn_z 5) := fun _ _ => rfl
set_option maxRecDepth 100000 in
theorem sm_first_56 : ∀ (ad : Nat → Nat) (ca : Nat → ClassId), sm_cell ad ca sm_m0 56 (.inl (4, [(2, 36), (2, 57), (2, 58), (0, 0), (2, 59)])) = sm_dcell ad ca (.inl (4, [.ref 36, .ref 57, .ref 58, .int (0), .ref 59])) := fun _ _ => rfl
set_option maxRecDepth 100000 in
theorem sm_first_57 : ∀ (ad : Nat → Nat) (ca : Nat → ClassId), sm_cell ad ca sm_m0 57 (.inr (.inl 4)) = sm_dcell ad ca (sn_z 4) := fun _ _ => rfl
set_option maxRecDepth 100000 in
theorem sm_first_58 : ∀ (ad : Nat → Nat) (ca : Nat → ClassId), sm_cell ad ca sm_m0 58 (.inr (.inl 4)) = sm_dcell ad ca (sn_z 4) := fun _ _ => rfl
set_option maxRecDepth 100000 in
theorem sm_first_59 : ∀ (ad : Nat → Nat) (ca : Nat → ClassId), sm_cell ad ca sm_m0 59 (.inr (.inl 9)) = sm_dcell ad ca (sn_z 9) := fun _ _ => rfl
set_option maxRecDepth 100000 in
theorem sm_first_60 : ∀ (ad : Nat → Nat) (ca : Nat → ClassId), sm_cell ad ca sm_m0 60 (.inl (3, [(0, 0), (1, 0), (1, 0), (0, 0), (2, 61)])) = sm_dcell ad ca (.inl (3, [.int (0), .long (0), .long (1), .int (0), .ref 61])) := fun _ _ => rfl
set_option maxRecDepth 100000 in
theorem sm_first_61 : ∀ (ad : Nat → Nat) (ca : Nat → ClassId), sm_cell ad ca sm_m0 61 (.inr (.inl 6)) = sm_dcell ad ca (sn_z 6) := fun _ _ => rfl
set_option maxRecDepth 100000 in
theorem sm_first_62 : ∀ (ad : Nat → Nat) (ca : Nat → ClassId), sm_cell ad ca sm_m0 62 (.inr (.inl 19)) = sm_dcell ad ca (sn_z 19) := fun _ _ => rfl
set_option maxRecDepth 100000 in
theorem sm_first_63 : ∀ (ad : Nat → Nat) (ca : Nat → ClassId), sm_cell ad ca sm_m0 63 (.inr (.inl 31)) = sm_dcell ad ca (sn_z 31) := fun _ _ => rfl
set_option maxRecDepth 100000 in
theorem sm_first_64 : ∀ (ad : Nat → Nat) (ca : Nat → ClassId), sm_cell ad ca sm_m0 64 (.inr (.inl 8)) = sm_dcell ad ca (sn_z 8) := fun _ _ => rfl
set_option maxRecDepth 100000 in
theorem sm_first : sm_all2 sm_m0 0 sm_shape sm_W0 := by
  unfold sm_shape sm_W0
  refine sm_all2_cons (k1 := 1) sm_first_0 ?_ rfl
  refine sm_all2_cons (k1 := 2) sm_first_1 ?_ rfl
  refine sm_all2_cons (k1 := 3) sm_first_2 ?_ rfl
  refine sm_all2_cons (k1 := 4) sm_first_3 ?_ rfl
  refine sm_all2_cons (k1 := 5) sm_first_4 ?_ rfl
  refine sm_all2_cons (k1 := 6) sm_first_5 ?_ rfl
  refine sm_all2_cons (k1 := 7) sm_first_6 ?_ rfl
  refine sm_all2_cons (k1 := 8) sm_first_7 ?_ rfl
  refine sm_all2_cons (k1 := 9) sm_first_8 ?_ rfl
  refine sm_all2_cons (k1 := 10) sm_first_9 ?_ rfl
  refine sm_all2_cons (k1 := 11) sm_first_10 ?_ rfl
  refine sm_all2_cons (k1 := 12) sm_first_11 ?_ rfl
  refine sm_all2_cons (k1 := 13) sm_first_12 ?_ rfl
  refine sm_all2_cons (k1 := 14) sm_first_13 ?_ rfl
  refine sm_all2_cons (k1 := 15) sm_first_14 ?_ rfl
  refine sm_all2_cons (k1 := 16) sm_first_15 ?_ rfl
  refine sm_all2_cons (k1 := 17) sm_first_16 ?_ rfl
  refine sm_all2_cons (k1 := 18) sm_first_17 ?_ rfl
  refine sm_all2_cons (k1 := 19) sm_first_18 ?_ rfl
  refine sm_all2_cons (k1 := 20) sm_first_19 ?_ rfl
  refine sm_all2_cons (k1 := 21) sm_first_20 ?_ rfl
  refine sm_all2_cons (k1 := 22) sm_first_21 ?_ rfl
  refine sm_all2_cons (k1 := 23) sm_first_22 ?_ rfl
  refine sm_all2_cons (k1 := 24) sm_first_23 ?_ rfl
  refine sm_all2_cons (k1 := 25) sm_first_24 ?_ rfl
  refine sm_all2_cons (k1 := 26) sm_first_25 ?_ rfl
  refine sm_all2_cons (k1 := 27) sm_first_26 ?_ rfl
  refine sm_all2_cons (k1 := 28) sm_first_27 ?_ rfl
  refine sm_all2_cons (k1 := 29) sm_first_28 ?_ rfl
  refine sm_all2_cons (k1 := 30) sm_first_29 ?_ rfl
  refine sm_all2_cons (k1 := 31) sm_first_30 ?_ rfl
  refine sm_all2_cons (k1 := 32) sm_first_31 ?_ rfl
  refine sm_all2_cons (k1 := 33) sm_first_32 ?_ rfl
  refine sm_all2_cons (k1 := 34) sm_first_33 ?_ rfl
  refine sm_all2_cons (k1 := 35) sm_first_34 ?_ rfl
  refine sm_all2_cons (k1 := 36) sm_first_35 ?_ rfl
  refine sm_all2_cons (k1 := 37) sm_first_36 ?_ rfl
  refine sm_all2_cons (k1 := 38) sm_first_37 ?_ rfl
  refine sm_all2_cons (k1 := 39) sm_first_38 ?_ rfl
  refine sm_all2_cons (k1 := 40) sm_first_39 ?_ rfl
  refine sm_all2_cons (k1 := 41) sm_first_40 ?_ rfl
  refine sm_all2_cons (k1 := 42) sm_first_41 ?_ rfl
  refine sm_all2_cons (k1 := 43) sm_first_42 ?_ rfl
  refine sm_all2_cons (k1 := 44) sm_first_43 ?_ rfl
  refine sm_all2_cons (k1 := 45) sm_first_44 ?_ rfl
  refine sm_all2_cons (k1 := 46) sm_first_45 ?_ rfl
  refine sm_all2_cons (k1 := 47) sm_first_46 ?_ rfl
  refine sm_all2_cons (k1 := 48) sm_first_47 ?_ rfl
  refine sm_all2_cons (k1 := 49) sm_first_48 ?_ rfl
  refine sm_all2_cons (k1 := 50) sm_first_49 ?_ rfl
  refine sm_all2_cons (k1 := 51) sm_first_50 ?_ rfl
  refine sm_all2_cons (k1 := 52) sm_first_51 ?_ rfl
  refine sm_all2_cons (k1 := 53) sm_first_52 ?_ rfl
  refine sm_all2_cons (k1 := 54) sm_first_53 ?_ rfl
  refine sm_all2_cons (k1 := 55) sm_first_54 ?_ rfl
  refine sm_all2_cons (k1 := 56) sm_first_55 ?_ rfl
  refine sm_all2_cons (k1 := 57) sm_first_56 ?_ rfl
  refine sm_all2_cons (k1 := 58) sm_first_57 ?_ rfl
  refine sm_all2_cons (k1 := 59) sm_first_58 ?_ rfl
  refine sm_all2_cons (k1 := 60) sm_first_59 ?_ rfl
  refine sm_all2_cons (k1 := 61) sm_first_60 ?_ rfl
  refine sm_all2_cons (k1 := 62) sm_first_61 ?_ rfl
  refine sm_all2_cons (k1 := 63) sm_first_62 ?_ rfl
  refine sm_all2_cons (k1 := 64) sm_first_63 ?_ rfl
  refine sm_all2_cons (k1 := 65) sm_first_64 ?_ rfl
  exact trivial
theorem sm_first_eq (ad : Nat → Nat) (ca : Nat → ClassId) : sm_conc ad ca sm_m0 = sm_dconc ad ca sm_W0 := by
  have h := sm_all2_eq (ad := ad) (ca := ca) _ _ 0 sm_first
  unfold sm_conc sm_dconc
  rw [← h]
  simp only [Nat.zero_add]
set_option maxRecDepth 100000 in
theorem sm_kn0 {args : Array Value} {s : State} (hts : ∀ z ∈ lw_tbl, z.before args s = true) : ∃ (cC : ClassId) (iS : Nat → Nat), u_Kn s RX0 TX0 4 cC iS := u_known (ws := lw_tbl) (n := 4) hts sm_inX0 (hts (Cond.instantiable RX0 4) (List.mem_of_getElem? (i := 114) (by decide +kernel)))
set_option maxRecDepth 100000 in
theorem sm_kn1 {args : Array Value} {s : State} (hts : ∀ z ∈ lw_tbl, z.before args s = true) : ∃ (cC : ClassId) (iS : Nat → Nat), u_Kn s RX1 TX1 13 cC iS := u_known (ws := lw_tbl) (n := 13) hts sm_inX1 (hts (Cond.instantiable RX1 13) (List.mem_of_getElem? (i := 138) (by decide +kernel)))
set_option maxRecDepth 100000 in
theorem sm_kn2 {args : Array Value} {s : State} (hts : ∀ z ∈ lw_tbl, z.before args s = true) : ∃ (cC : ClassId) (iS : Nat → Nat), u_Kn s RX2 TX2 2 cC iS := u_known (ws := lw_tbl) (n := 2) hts sm_inX2 (hts (Cond.instantiable RX2 2) (List.mem_of_getElem? (i := 88) (by decide +kernel)))
set_option maxRecDepth 100000 in
theorem sm_kn3 {args : Array Value} {s : State} (hts : ∀ z ∈ lw_tbl, z.before args s = true) : ∃ (cC : ClassId) (iS : Nat → Nat), u_Kn s RX3 TX3 5 cC iS := u_known (ws := lw_tbl) (n := 5) hts sm_inX3 (hts (Cond.instantiable RX3 5) (List.mem_of_getElem? (i := 279) (by decide +kernel)))
set_option maxRecDepth 100000 in
theorem sm_kn4 {args : Array Value} {s : State} (hts : ∀ z ∈ lw_tbl, z.before args s = true) : ∃ (cC : ClassId) (iS : Nat → Nat), u_Kn s RX4 TX4 5 cC iS := u_known (ws := lw_tbl) (n := 5) hts sm_inX4 (hts (Cond.instantiable RX4 5) (List.mem_of_getElem? (i := 255) (by decide +kernel)))
set_option maxRecDepth 100000 in
theorem sm_kn5 {args : Array Value} {s : State} (hts : ∀ z ∈ lw_tbl, z.before args s = true) : ∃ (cC : ClassId) (iS : Nat → Nat), u_Kn s RX5 TX5 14 cC iS := u_known (ws := lw_tbl) (n := 14) hts sm_inX5 (hts (Cond.instantiable RX5 14) (List.mem_of_getElem? (i := 199) (by decide +kernel)))
set_option maxRecDepth 100000 in
theorem sm_kn6 {args : Array Value} {s : State} (hts : ∀ z ∈ lw_tbl, z.before args s = true) : ∃ (cC : ClassId) (iS : Nat → Nat), u_Kn s RX6 TX6 7 cC iS := u_known (ws := lw_tbl) (n := 7) hts sm_inX6 (hts (Cond.instantiable RX6 7) (List.mem_of_getElem? (i := 79) (by decide +kernel)))
theorem sm_known {args : Array Value} {s : State} (hts : ∀ z ∈ lw_tbl, z.before args s = true) : ∃ D : va_G, va_K D vwCl [] s := by
  have h : ∀ c : Nat, ∃ (cC : ClassId) (iS : Nat → Nat), ∀ q : vw_C, vwCl[c]? = some q → u_Kn s q.1 q.2.1 q.2.2 cC iS := by
    intro c
    by_cases hc : c < 7
    · rcases (show c = 0 ∨ c = 1 ∨ c = 2 ∨ c = 3 ∨ c = 4 ∨ c = 5 ∨ c = 6 by omega) with rfl | rfl | rfl | rfl | rfl | rfl | rfl
      · obtain ⟨a, b, h⟩ := sm_kn0 hts
        exact ⟨a, b, fun q hq => by cases hq; exact h⟩
      · obtain ⟨a, b, h⟩ := sm_kn1 hts
        exact ⟨a, b, fun q hq => by cases hq; exact h⟩
      · obtain ⟨a, b, h⟩ := sm_kn2 hts
        exact ⟨a, b, fun q hq => by cases hq; exact h⟩
      · obtain ⟨a, b, h⟩ := sm_kn3 hts
        exact ⟨a, b, fun q hq => by cases hq; exact h⟩
      · obtain ⟨a, b, h⟩ := sm_kn4 hts
        exact ⟨a, b, fun q hq => by cases hq; exact h⟩
      · obtain ⟨a, b, h⟩ := sm_kn5 hts
        exact ⟨a, b, fun q hq => by cases hq; exact h⟩
      · obtain ⟨a, b, h⟩ := sm_kn6 hts
        exact ⟨a, b, fun q hq => by cases hq; exact h⟩
    · refine ⟨0, fun _ => 0, fun q hq => ?_⟩
      have := (List.getElem?_eq_some_iff.mp hq).1
      simp at this
      omega
  refine ⟨(fun c => Classical.choose (h c), fun c => Classical.choose (Classical.choose_spec (h c))), fun c q hq => ?_, fun k q hq => by simp at hq⟩
  exact Classical.choose_spec (Classical.choose_spec (h c)) q hq
theorem sm_D_of {A : Nat → Prop} {ad : Nat → Nat} {ca : Nat → ClassId} {w w1 : sm_Mem} (h : va_D A (sm_conc ad ca w)) : va_D A (sm_conc ad ca w1) := by
  have key : ∀ (i : Nat) (p : Nat × va_E), (sm_conc ad ca w1)[i]? = some p → ∃ p0 : Nat × va_E, (sm_conc ad ca w)[i]? = some p0 ∧ p0.1 = p.1 := by
    intro i p hp
    unfold sm_conc at hp ⊢
    rw [List.getElem?_mapIdx] at hp ⊢
    cases hs : sm_shape[i]? with
    | none => rw [hs] at hp; cases hp
    | some sh =>
      rw [hs] at hp
      cases hp
      exact ⟨_, rfl, rfl⟩
  refine ⟨fun i j p q hp hq hpq => ?_, fun k q hq => ?_⟩
  · obtain ⟨p0, h1, h2⟩ := key i p hp
    obtain ⟨q0, h3, h4⟩ := key j q hq
    exact h.1 i j p0 q0 h1 h3 (by rw [h2, h4, hpq])
  · obtain ⟨q0, h3, h4⟩ := key k q hq
    rw [← h4]
    exact h.2 k q0 h3
theorem sm_letters {args : Array Value} {s : State} (hgv : (Jvm.Cond.and given_1 narrow_1).before args s = true) (hl : (Cond.laysStatic "HerOrders" "KIND_LETTERS" "[I").before args s = true) (hini : (Cond.initialized "HerOrders").before args s = true) : ∃ t : Nat, sm_ST s.heap.size t s := by
  have hs := flat_of_before _ hgv
  have hlen : (Cond.eq (.length (.static "HerOrders" "KIND_LETTERS" "[I")) (.int 6)).before args s = true := hs _ (by decide +kernel)
  have harr : (Cond.arrayOf (.static "HerOrders" "KIND_LETTERS" "[I") .int).before args s = true := hs _ (by decide +kernel)
  have hA : ∀ a : Nat, a < s.heap.size → ¬ (fun q => s.heap.size ≤ q) a := fun a h => Nat.not_le.mpr h
  obtain ⟨t, ht, hT⟩ := va_Tof (N := 6) (f := fun j => .int (sm_kl j)) (A := fun q => s.heap.size ≤ q) (by decide) harr (va_eqt hlen) (fun j hj => by
    rcases (show j = 0 ∨ j = 1 ∨ j = 2 ∨ j = 3 ∨ j = 4 ∨ j = 5 by omega) with rfl | rfl | rfl | rfl | rfl | rfl
    · exact va_eqt (hs (Cond.eq (.elem (.static "HerOrders" "KIND_LETTERS" "[I") (.int 0)) (.int 118)) (by decide +kernel))
    · exact va_eqt (hs (Cond.eq (.elem (.static "HerOrders" "KIND_LETTERS" "[I") (.int 1)) (.int 112)) (by decide +kernel))
    · exact va_eqt (hs (Cond.eq (.elem (.static "HerOrders" "KIND_LETTERS" "[I") (.int 2)) (.int 115)) (by decide +kernel))
    · exact va_eqt (hs (Cond.eq (.elem (.static "HerOrders" "KIND_LETTERS" "[I") (.int 3)) (.int 110)) (by decide +kernel))
    · exact va_eqt (hs (Cond.eq (.elem (.static "HerOrders" "KIND_LETTERS" "[I") (.int 4)) (.int 109)) (by decide +kernel))
    · exact va_eqt (hs (Cond.eq (.elem (.static "HerOrders" "KIND_LETTERS" "[I") (.int 5)) (.int 99)) (by decide +kernel))) hA
  exact ⟨t, va_Zof hl hini ht hA, hT⟩
