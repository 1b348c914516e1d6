/-! constructors: rows over a world that grows; cell i lies at ad i -/
abbrev sm_AE : Type := (Nat × List Value) ⊕ ((Nat × (Nat → Int32)) ⊕ (Nat × List (Option Nat)))
def sm_dcell (ad : Nat → Nat) (ca : Nat → ClassId) (x : sm_AE) : va_E := match x with
  | .inl (ci, fs) => .inr (ci, fs.map (sm_tr ad))
  | .inr (.inl (n, f)) => .inl (ca 0, n, .inl f)
  | .inr (.inr (t, ids)) => .inl (ca t, ids.length, .inr (.inr (.inr (.inr (fun j => ((ids[j]?).getD none).map ad)))))
def sm_dfrom (ad : Nat → Nat) (ca : Nat → ClassId) : Nat → List sm_AE → va_W
  | _, [] => []
  | k, x :: W => (ad k, sm_dcell ad ca x) :: sm_dfrom ad ca (k + 1) W
abbrev sm_dconc (ad : Nat → Nat) (ca : Nat → ClassId) (W : List sm_AE) : va_W := sm_dfrom ad ca 0 W
def sm_ty (t : Nat) : FieldType := match t with
  | 0 => .int
  | 1 => .object "HerOrders$Row"
  | _ => .object "HerOrders$Deeds"
def sm_nm (t : Nat) : String := "[" ++ (sm_ty t).toString
def sm_ctys (ca : Nat → ClassId) (tk : List Nat) : List (ClassId × FieldType) := tk.map (fun t => (ca t, sm_ty t))
theorem sm_dfrom_get {ad : Nat → Nat} {ca : Nat → ClassId} : ∀ {W : List sm_AE} {k i : Nat} {x : sm_AE}, W[i]? = some x → (sm_dfrom ad ca k W)[i]? = some (ad (k + i), sm_dcell ad ca x)
  | [], k, i, x, h => by simp at h
  | y :: W, k, 0, x, h => by
    simp at h
    subst h
    rfl
  | y :: W, k, i + 1, x, h => by
    rw [List.getElem?_cons_succ] at h
    rw [sm_dfrom, List.getElem?_cons_succ, sm_dfrom_get h, Nat.add_assoc, Nat.add_comm 1 i]
theorem sm_dfrom_len {ad : Nat → Nat} {ca : Nat → ClassId} : ∀ {W : List sm_AE} {k : Nat}, (sm_dfrom ad ca k W).length = W.length
  | [], k => rfl
  | y :: W, k => by rw [sm_dfrom, List.length_cons, sm_dfrom_len, List.length_cons]
theorem sm_dfrom_set {ad : Nat → Nat} {ca : Nat → ClassId} : ∀ {W : List sm_AE} {k i : Nat} {x : sm_AE}, (sm_dfrom ad ca k W).set i (ad (k + i), sm_dcell ad ca x) = sm_dfrom ad ca k (W.set i x)
  | [], k, i, x => rfl
  | y :: W, k, 0, x => rfl
  | y :: W, k, i + 1, x => by
    rw [sm_dfrom, List.set_cons_succ, List.set_cons_succ, sm_dfrom]
    have h := sm_dfrom_set (ad := ad) (ca := ca) (W := W) (k := k + 1) (i := i) (x := x)
    rw [Nat.add_assoc, Nat.add_comm 1 i] at h
    rw [h]
theorem sm_dfrom_app {ad : Nat → Nat} {ca : Nat → ClassId} : ∀ {W V : List sm_AE} {k : Nat}, sm_dfrom ad ca k (W ++ V) = sm_dfrom ad ca k W ++ sm_dfrom ad ca (k + W.length) V
  | [], V, k => rfl
  | y :: W, V, k => by
    rw [List.cons_append, sm_dfrom, sm_dfrom_app, sm_dfrom, List.cons_append, List.length_cons, Nat.add_assoc, Nat.add_comm 1]
theorem sm_dget {ad : Nat → Nat} {ca : Nat → ClassId} {W : List sm_AE} {i : Nat} {x : sm_AE} (h : W[i]? = some x) : (sm_dconc ad ca W)[i]? = some (ad i, sm_dcell ad ca x) := by
  have := sm_dfrom_get (ad := ad) (ca := ca) (k := 0) h
  rwa [Nat.zero_add] at this
theorem sm_dset {ad : Nat → Nat} {ca : Nat → ClassId} {W : List sm_AE} {i : Nat} (x : sm_AE) : (sm_dconc ad ca W).set i (ad i, sm_dcell ad ca x) = sm_dconc ad ca (W.set i x) := by
  have := sm_dfrom_set (ad := ad) (ca := ca) (W := W) (k := 0) (i := i) (x := x)
  rwa [Nat.zero_add] at this
/-- no reference to the cells a .. b - 1 -/
def sm_nv (a b : Nat) : Value → Bool
  | .ref q => !(Nat.ble a q && Nat.blt q b)
  | _ => true
def sm_nc (a b : Nat) : sm_AE → Bool
  | .inl (_, fs) => fs.all (sm_nv a b)
  | .inr (.inl _) => true
  | .inr (.inr (_, ids)) => ids.all (fun o => match o with | some q => sm_nv a b (.ref q) | none => true)
def sm_no (a b : Nat) : Option Value → Bool
  | some v => sm_nv a b v
  | none => true
theorem sm_nv_tr {ad ad1 : Nat → Nat} {a b : Nat} (h : ∀ i, ¬ (a ≤ i ∧ i < b) → ad1 i = ad i) {v : Value} (hv : sm_nv a b v = true) : sm_tr ad1 v = sm_tr ad v := by
  cases v with
  | ref q =>
    refine congrArg Value.ref (h q (fun hq => ?_))
    have e1 : Nat.ble a q = true := Nat.ble_eq_true_of_le hq.1
    have e2 : Nat.blt q b = true := Nat.ble_eq_true_of_le hq.2
    simp only [sm_nv, e1, e2] at hv
    cases hv
  | _ => rfl
theorem sm_nc_cell {ad ad1 : Nat → Nat} {ca : Nat → ClassId} {a b : Nat} (h : ∀ i, ¬ (a ≤ i ∧ i < b) → ad1 i = ad i) {x : sm_AE} (hx : sm_nc a b x = true) : sm_dcell ad1 ca x = sm_dcell ad ca x := by
  rcases x with ⟨ci, fs⟩ | ⟨n, f⟩ | ⟨t, ids⟩
  · have e : fs.map (sm_tr ad1) = fs.map (sm_tr ad) := List.map_congr_left (fun v hv => sm_nv_tr h (List.all_eq_true.mp hx v hv))
    simp only [sm_dcell, e]
  · rfl
  · have e : (fun (j : Nat) => ((ids[j]?).getD none).map ad1) = (fun (j : Nat) => ((ids[j]?).getD none).map ad) := by
      funext j
      cases hj : ids[j]? with
      | none => rfl
      | some o =>
        cases o with
        | none => rfl
        | some q =>
          have h1 := List.all_eq_true.mp hx (some q) (List.mem_of_getElem? hj)
          have h2 := sm_nv_tr h (v := .ref q) h1
          simp only [Option.getD_some, Option.map_some]
          exact congrArg some (Value.ref.inj h2)
    simp only [sm_dcell, e]
theorem sm_nc_from {ad ad1 : Nat → Nat} {ca : Nat → ClassId} {a b : Nat} (h : ∀ i, ¬ (a ≤ i ∧ i < b) → ad1 i = ad i) : ∀ {W : List sm_AE} {k : Nat}, W.all (sm_nc a b) = true → k + W.length ≤ a → sm_dfrom ad1 ca k W = sm_dfrom ad ca k W
  | [], k, _, _ => rfl
  | y :: W, k, hW, hk => by
    rw [List.all_cons, Bool.and_eq_true] at hW
    rw [List.length_cons] at hk
    rw [sm_dfrom, sm_dfrom, sm_nc_cell h hW.1, h k (by omega), sm_nc_from h hW.2 (by omega)]
theorem sm_no_loc {ad ad1 : Nat → Nat} {a b : Nat} (h : ∀ i, ¬ (a ≤ i ∧ i < b) → ad1 i = ad i) : ∀ {L : List (Option Value)} {k : Nat}, L.all (sm_no a b) = true → sm_loc ad1 k L = sm_loc ad k L
  | [], k, _ => rfl
  | none :: L, k, hL => by
    rw [List.all_cons, Bool.and_eq_true] at hL
    rw [sm_loc, sm_loc, sm_no_loc h hL.2]
  | some v :: L, k, hL => by
    rw [List.all_cons, Bool.and_eq_true] at hL
    rw [sm_loc, sm_loc, sm_no_loc h hL.2, sm_nv_tr h hL.1]
theorem sm_nv_st {ad ad1 : Nat → Nat} {a b : Nat} (h : ∀ i, ¬ (a ≤ i ∧ i < b) → ad1 i = ad i) {S : List Value} (hS : S.all (sm_nv a b) = true) : S.map (sm_tr ad1) = S.map (sm_tr ad) := List.map_congr_left (fun v hv => sm_nv_tr h (List.all_eq_true.mp hS v hv))
def sm_CA (ca : Nat → ClassId) (U : State) : Prop := ∀ (t : Nat) (c : ClassId), U.vm.findClass (sm_nm t) = some c → ca t = c
def sm_CO (p : Program) (l : Launch) (e : Env) (R : Room) (s : State) (m : MethodId) (args : Array Value) (below : List Frame) (meth : Method) (c : Code) (D : va_G) (ca : Nat → ClassId) (A : Nat → Prop) (ad0 : Nat → Nat) (Q : State → Prop) (M : sm_MI) (F : Nat → List (Option Value) → List Value → Prop) (b0 : Bool) (Wf : List sm_AE) (tkf : List Nat) (nf sf : Nat) : Prop :=
  p.tables.exec = Jvm.exec ∧ c.code = M.2.1 ∧ c.maxLocals = M.2.2.1 ∧ s.vm.findClass M.1.cls = some m.cls ∧ (∀ z ∈ sm_good, z.before args s = true) ∧ (∀ z ∈ lw_tbl, sm_nest z = true → va_Nw z s) ∧ (∀ q, s.heap.size ≤ q → A q) ∧ sm_CA ca s ∧ (M.1.name = "<init>" → meth.name = "<init>") ∧ (∀ C, Cond.arrayOver (.object C) ∈ lw_tbl → va_AO C s) ∧ (M.2.2.2.2 ≤ R.frames ∧ 40 * M.2.2.2.2 ≤ R.locals ∧ nf ≤ R.cells ∧ sf ≤ R.slots) ∧
  ∀ (ad : Nat → Nat) (H : Heap) (locs : List Loc) (ls : Array Slot) (pc : Nat) (L : List (Option Value)) (st : List Value), F pc L st → (∀ i, (b0 = true ∧ i = 0) ∨ 900 ≤ i → ad i = ad0 i) → va_P D vwCl (sm_dconc ad ca Wf) H → va_D A (sm_dconc ad ca Wf) → va_K D vwCl (sm_ctys ca tkf) s → va_S A s.heap H locs → lv_has ls M.2.2.1 (sm_loc ad 0 L) → W p l e R s m args below meth c H locs nf sf Q (F0 m pc ls (st.map (sm_tr ad)))
def sm_Cn (M : sm_MI) (F : Nat → List (Option Value) → List Value → Prop) (b0 : Bool) (Wf : List sm_AE) (tkf : List Nat) (nf sf : Nat) (pc : Nat) (L : List (Option Value)) (st : List Value) (W1 : List sm_AE) (tk : List Nat) (nc ns : Nat) : Prop :=
  ∀ (p : Program) (l : Launch) (e : Env) (R : Room) (s : State) (m : MethodId) (args : Array Value) (below : List Frame) (meth : Method) (c : Code) (D : va_G) (ca : Nat → ClassId) (A : Nat → Prop) (ad0 : Nat → Nat) (Q : State → Prop), sm_CO p l e R s m args below meth c D ca A ad0 Q M F b0 Wf tkf nf sf → ∀ (ad : Nat → Nat) (H : Heap) (locs : List Loc) (ls : Array Slot), (∀ i, (b0 = true ∧ i = 0) ∨ 900 ≤ i → ad i = ad0 i) → va_P D vwCl (sm_dconc ad ca W1) H → va_D A (sm_dconc ad ca W1) → va_K D vwCl (sm_ctys ca tk) s → va_S A s.heap H locs → lv_has ls M.2.2.1 (sm_loc ad 0 L) → W p l e R s m args below meth c H locs nc ns Q (F0 m pc ls (st.map (sm_tr ad)))
theorem sn_end {M : sm_MI} {F : Nat → List (Option Value) → List Value → Prop} {b0 : Bool} {pc : Nat} {L : List (Option Value)} {st : List Value} {W Wf : List sm_AE} {tk tkf : List Nat} {nc ns nf sf : Nat} (hF : F pc L st) (hnc : nc = nf) (hns : ns = sf) (hW : W = Wf) (htk : ∃ is : List Nat, is.filterMap (fun i => tk[i]?) = tkf) : sm_Cn M F b0 Wf tkf nf sf pc L st W tk nc ns := by
  intro p l e R s m args below meth c D ca A ad0 Q hO ad H locs ls hag hP hD hK hS hl
  subst hnc
  subst hns
  subst hW
  obtain ⟨is, hi⟩ := htk
  have hK2 : va_K D vwCl (sm_ctys ca tkf) s := hK.sub is (by
    rw [← hi]
    unfold sm_ctys
    rw [List.map_filterMap]
    simp only [List.getElem?_map])
  exact hO.2.2.2.2.2.2.2.2.2.2.2 ad H locs ls pc L st hF hag hP hD hK2 hS hl

theorem sn_iconst {M : sm_MI} {F : Nat → List (Option Value) → List Value → Prop} {b0 : Bool} {pc pc1 : Nat} {L : List (Option Value)} {st : List Value} {W Wf : List sm_AE} {tk tkf : List Nat} {nc ns nf sf : Nat} {z : Int} (x : Int32) (hd : sm_D M.2.1 pc 1 pc1 (.iconst z)) (hv : Int32.ofInt z = x) (k : sm_Cn M F b0 Wf tkf nf sf pc1 L (.int x :: st) W tk nc ns) : sm_Cn M F b0 Wf tkf nf sf pc L (st) W tk nc ns := by
  intro p l e R s m args below meth c D ca A ad0 Q hO ad H locs ls hag hP hD hK hS hl
  obtain ⟨hd, rfl⟩ := hd
  exact lv_iconst hO.1 hO.2.1 hd hv (k _ _ _ _ _ _ _ _ _ _ _ _ _ _ _ hO ad H locs ls hag hP hD hK hS hl)

theorem sn_bipush {M : sm_MI} {F : Nat → List (Option Value) → List Value → Prop} {b0 : Bool} {pc pc1 : Nat} {L : List (Option Value)} {st : List Value} {W Wf : List sm_AE} {tk tkf : List Nat} {nc ns nf sf : Nat} {z : Int} (x : Int32) (hd : sm_D M.2.1 pc 2 pc1 (.bipush z)) (hv : (Int8.ofInt z).toInt32 = x) (k : sm_Cn M F b0 Wf tkf nf sf pc1 L (.int x :: st) W tk nc ns) : sm_Cn M F b0 Wf tkf nf sf pc L (st) W tk nc ns := by
  intro p l e R s m args below meth c D ca A ad0 Q hO ad H locs ls hag hP hD hK hS hl
  obtain ⟨hd, rfl⟩ := hd
  exact lv_bipush hO.1 hO.2.1 hd hv (k _ _ _ _ _ _ _ _ _ _ _ _ _ _ _ hO ad H locs ls hag hP hD hK hS hl)

theorem sn_sipush {M : sm_MI} {F : Nat → List (Option Value) → List Value → Prop} {b0 : Bool} {pc pc1 : Nat} {L : List (Option Value)} {st : List Value} {W Wf : List sm_AE} {tk tkf : List Nat} {nc ns nf sf : Nat} {z : Int} (x : Int32) (hd : sm_D M.2.1 pc 3 pc1 (.sipush z)) (hv : (Int16.ofInt z).toInt32 = x) (k : sm_Cn M F b0 Wf tkf nf sf pc1 L (.int x :: st) W tk nc ns) : sm_Cn M F b0 Wf tkf nf sf pc L (st) W tk nc ns := by
  intro p l e R s m args below meth c D ca A ad0 Q hO ad H locs ls hag hP hD hK hS hl
  obtain ⟨hd, rfl⟩ := hd
  exact lv_sipush hO.1 hO.2.1 hd hv (k _ _ _ _ _ _ _ _ _ _ _ _ _ _ _ hO ad H locs ls hag hP hD hK hS hl)

theorem sn_lconst {M : sm_MI} {F : Nat → List (Option Value) → List Value → Prop} {b0 : Bool} {pc pc1 : Nat} {L : List (Option Value)} {st : List Value} {W Wf : List sm_AE} {tk tkf : List Nat} {nc ns nf sf : Nat} {z : Fin 2} (x : Int64) (hd : sm_D M.2.1 pc 1 pc1 (.lconst z)) (hv : Int64.ofNat (z : Nat) = x) (k : sm_Cn M F b0 Wf tkf nf sf pc1 L (.long x :: st) W tk nc ns) : sm_Cn M F b0 Wf tkf nf sf pc L (st) W tk nc ns := by
  intro p l e R s m args below meth c D ca A ad0 Q hO ad H locs ls hag hP hD hK hS hl
  obtain ⟨hd, rfl⟩ := hd
  exact lv_lconst hO.1 hO.2.1 hd hv (k _ _ _ _ _ _ _ _ _ _ _ _ _ _ _ hO ad H locs ls hag hP hD hK hS hl)

theorem sn_iload_n {M : sm_MI} {F : Nat → List (Option Value) → List Value → Prop} {b0 : Bool} {pc pc1 : Nat} {L : List (Option Value)} {st : List Value} {W Wf : List sm_AE} {tk tkf : List Nat} {nc ns nf sf : Nat} {z : Fin 4} {x : Int32} (hd : sm_D M.2.1 pc 1 pc1 (.iload_n z)) (hx : sm_lk L z = some (.int x)) (k : sm_Cn M F b0 Wf tkf nf sf pc1 L (.int x :: st) W tk nc ns) : sm_Cn M F b0 Wf tkf nf sf pc L (st) W tk nc ns := by
  intro p l e R s m args below meth c D ca A ad0 Q hO ad H locs ls hag hP hD hK hS hl
  obtain ⟨hd, rfl⟩ := hd
  exact lv_iload_n hO.1 hO.2.1 hd rfl (sm_at hl hx) (k _ _ _ _ _ _ _ _ _ _ _ _ _ _ _ hO ad H locs ls hag hP hD hK hS hl)

theorem sn_aload_n {M : sm_MI} {F : Nat → List (Option Value) → List Value → Prop} {b0 : Bool} {pc pc1 : Nat} {L : List (Option Value)} {st : List Value} {W Wf : List sm_AE} {tk tkf : List Nat} {nc ns nf sf : Nat} {z : Fin 4} {x : Nat} (hd : sm_D M.2.1 pc 1 pc1 (.aload_n z)) (hx : sm_lk L z = some (.ref x)) (k : sm_Cn M F b0 Wf tkf nf sf pc1 L (.ref x :: st) W tk nc ns) : sm_Cn M F b0 Wf tkf nf sf pc L (st) W tk nc ns := by
  intro p l e R s m args below meth c D ca A ad0 Q hO ad H locs ls hag hP hD hK hS hl
  obtain ⟨hd, rfl⟩ := hd
  exact lv_aload_n hO.1 hO.2.1 hd rfl (sm_at hl hx) (k _ _ _ _ _ _ _ _ _ _ _ _ _ _ _ hO ad H locs ls hag hP hD hK hS hl)

theorem sn_dup {M : sm_MI} {F : Nat → List (Option Value) → List Value → Prop} {b0 : Bool} {pc pc1 : Nat} {L : List (Option Value)} {st : List Value} {W Wf : List sm_AE} {tk tkf : List Nat} {nc ns nf sf : Nat} {x : Nat} (hd : sm_D M.2.1 pc 1 pc1 .dup) (k : sm_Cn M F b0 Wf tkf nf sf pc1 L (.ref x :: .ref x :: st) W tk nc ns) : sm_Cn M F b0 Wf tkf nf sf pc L (.ref x :: st) W tk nc ns := by
  intro p l e R s m args below meth c D ca A ad0 Q hO ad H locs ls hag hP hD hK hS hl
  obtain ⟨hd, rfl⟩ := hd
  exact lv_dup hO.1 hO.2.1 hd rfl (k _ _ _ _ _ _ _ _ _ _ _ _ _ _ _ hO ad H locs ls hag hP hD hK hS hl)

theorem sn_imul {M : sm_MI} {F : Nat → List (Option Value) → List Value → Prop} {b0 : Bool} {pc pc1 : Nat} {L : List (Option Value)} {st : List Value} {W Wf : List sm_AE} {tk tkf : List Nat} {nc ns nf sf : Nat} {x y : Int32} (z : Int32) (hd : sm_D M.2.1 pc 1 pc1 .imul) (hz : x * y = z) (k : sm_Cn M F b0 Wf tkf nf sf pc1 L (.int z :: st) W tk nc ns) : sm_Cn M F b0 Wf tkf nf sf pc L (.int y :: .int x :: st) W tk nc ns := by
  intro p l e R s m args below meth c D ca A ad0 Q hO ad H locs ls hag hP hD hK hS hl
  obtain ⟨hd, rfl⟩ := hd
  subst hz
  exact lv_imul hO.1 hO.2.1 hd (k _ _ _ _ _ _ _ _ _ _ _ _ _ _ _ hO ad H locs ls hag hP hD hK hS hl)

theorem sn_iadd {M : sm_MI} {F : Nat → List (Option Value) → List Value → Prop} {b0 : Bool} {pc pc1 : Nat} {L : List (Option Value)} {st : List Value} {W Wf : List sm_AE} {tk tkf : List Nat} {nc ns nf sf : Nat} {x y : Int32} (z : Int32) (hd : sm_D M.2.1 pc 1 pc1 .iadd) (hz : x + y = z) (k : sm_Cn M F b0 Wf tkf nf sf pc1 L (.int z :: st) W tk nc ns) : sm_Cn M F b0 Wf tkf nf sf pc L (.int y :: .int x :: st) W tk nc ns := by
  intro p l e R s m args below meth c D ca A ad0 Q hO ad H locs ls hag hP hD hK hS hl
  obtain ⟨hd, rfl⟩ := hd
  subst hz
  exact lv_iadd hO.1 hO.2.1 hd (k _ _ _ _ _ _ _ _ _ _ _ _ _ _ _ hO ad H locs ls hag hP hD hK hS hl)

theorem sn_istore_n {M : sm_MI} {F : Nat → List (Option Value) → List Value → Prop} {b0 : Bool} {pc pc1 : Nat} {L : List (Option Value)} {st : List Value} {W Wf : List sm_AE} {tk tkf : List Nat} {nc ns nf sf : Nat} {z : Fin 4} {x : Int32} (L1 : List (Option Value)) (hd : sm_D M.2.1 pc 1 pc1 (.istore_n z)) (hn : Nat.ble ((z : Nat) + 1) M.2.2.1 = true) (hL : sm_st1 L z (.int x) = L1) (k : sm_Cn M F b0 Wf tkf nf sf pc1 L1 st W tk nc ns) : sm_Cn M F b0 Wf tkf nf sf pc L (.int x :: st) W tk nc ns := by
  intro p l e R s m args below meth c D ca A ad0 Q hO ad H locs ls hag hP hD hK hS hl
  obtain ⟨hd, rfl⟩ := hd
  subst hL
  exact lv_istore_n hO.1 hO.2.1 hd rfl hl (Nat.le_of_ble_eq_true hn) rfl (fun ls1 h1 => k _ _ _ _ _ _ _ _ _ _ _ _ _ _ _ hO ad H locs _ hag hP hD hK hS (sm_has1 (v := .int x) h1))

theorem sn_astore_n {M : sm_MI} {F : Nat → List (Option Value) → List Value → Prop} {b0 : Bool} {pc pc1 : Nat} {L : List (Option Value)} {st : List Value} {W Wf : List sm_AE} {tk tkf : List Nat} {nc ns nf sf : Nat} {z : Fin 4} {x : Nat} (L1 : List (Option Value)) (hd : sm_D M.2.1 pc 1 pc1 (.astore_n z)) (hn : Nat.ble ((z : Nat) + 1) M.2.2.1 = true) (hL : sm_st1 L z (.ref x) = L1) (k : sm_Cn M F b0 Wf tkf nf sf pc1 L1 st W tk nc ns) : sm_Cn M F b0 Wf tkf nf sf pc L (.ref x :: st) W tk nc ns := by
  intro p l e R s m args below meth c D ca A ad0 Q hO ad H locs ls hag hP hD hK hS hl
  obtain ⟨hd, rfl⟩ := hd
  subst hL
  exact lv_astore_n hO.1 hO.2.1 hd rfl hl (Nat.le_of_ble_eq_true hn) rfl (fun ls1 h1 => k _ _ _ _ _ _ _ _ _ _ _ _ _ _ _ hO ad H locs _ hag hP hD hK hS (sm_has1 (v := .ref x) h1))

theorem sn_astore {M : sm_MI} {F : Nat → List (Option Value) → List Value → Prop} {b0 : Bool} {pc pc1 : Nat} {L : List (Option Value)} {st : List Value} {W Wf : List sm_AE} {tk tkf : List Nat} {nc ns nf sf : Nat} {z : Nat} {x : Nat} (L1 : List (Option Value)) (hd : sm_D M.2.1 pc 2 pc1 (.astore z)) (hn : Nat.ble (z + 1) M.2.2.1 = true) (hL : sm_st1 L z (.ref x) = L1) (k : sm_Cn M F b0 Wf tkf nf sf pc1 L1 st W tk nc ns) : sm_Cn M F b0 Wf tkf nf sf pc L (.ref x :: st) W tk nc ns := by
  intro p l e R s m args below meth c D ca A ad0 Q hO ad H locs ls hag hP hD hK hS hl
  obtain ⟨hd, rfl⟩ := hd
  subst hL
  exact lv_astore hO.1 hO.2.1 hd hl (Nat.le_of_ble_eq_true hn) rfl (fun ls1 h1 => k _ _ _ _ _ _ _ _ _ _ _ _ _ _ _ hO ad H locs _ hag hP hD hK hS (sm_has1 (v := .ref x) h1))

theorem sn_goto {M : sm_MI} {F : Nat → List (Option Value) → List Value → Prop} {b0 : Bool} {pc pc1 : Nat} {L : List (Option Value)} {st : List Value} {W Wf : List sm_AE} {tk tkf : List Nat} {nc ns nf sf : Nat} {off : Int} (tgt : Nat) (hd : sm_D M.2.1 pc 3 pc1 (.goto off)) (ht : (pc : Int) + off = (tgt : Int)) (k : sm_Cn M F b0 Wf tkf nf sf tgt L st W tk nc ns) : sm_Cn M F b0 Wf tkf nf sf pc L st W tk nc ns := by
  intro p l e R s m args below meth c D ca A ad0 Q hO ad H locs ls hag hP hD hK hS hl
  obtain ⟨hd, rfl⟩ := hd
  exact lv_goto hO.1 hO.2.1 hd ht (k _ _ _ _ _ _ _ _ _ _ _ _ _ _ _ hO ad H locs ls hag hP hD hK hS hl)
theorem sn_ge_t {M : sm_MI} {F : Nat → List (Option Value) → List Value → Prop} {b0 : Bool} {pc pc1 : Nat} {L : List (Option Value)} {st : List Value} {W Wf : List sm_AE} {tk tkf : List Nat} {nc ns nf sf : Nat} {off : Int} {x y : Int32} (tgt : Nat) (hd : sm_D M.2.1 pc 3 pc1 (.if_icmp .ge off)) (ht : (pc : Int) + off = (tgt : Int)) (hc : y ≤ x) (k : sm_Cn M F b0 Wf tkf nf sf tgt L st W tk nc ns) : sm_Cn M F b0 Wf tkf nf sf pc L (.int y :: .int x :: st) W tk nc ns := by
  intro p l e R s m args below meth c D ca A ad0 Q hO ad H locs ls hag hP hD hK hS hl
  obtain ⟨hd, rfl⟩ := hd
  exact lv_icmp_ge hO.1 hO.2.1 hd ht (fun _ => k _ _ _ _ _ _ _ _ _ _ _ _ _ _ _ hO ad H locs ls hag hP hD hK hS hl) (fun h => absurd hc h)
theorem sn_ge_f {M : sm_MI} {F : Nat → List (Option Value) → List Value → Prop} {b0 : Bool} {pc pc1 : Nat} {L : List (Option Value)} {st : List Value} {W Wf : List sm_AE} {tk tkf : List Nat} {nc ns nf sf : Nat} {off : Int} {x y : Int32} (tgt : Nat) (hd : sm_D M.2.1 pc 3 pc1 (.if_icmp .ge off)) (ht : (pc : Int) + off = (tgt : Int)) (hc : ¬ y ≤ x) (k : sm_Cn M F b0 Wf tkf nf sf pc1 L st W tk nc ns) : sm_Cn M F b0 Wf tkf nf sf pc L (.int y :: .int x :: st) W tk nc ns := by
  intro p l e R s m args below meth c D ca A ad0 Q hO ad H locs ls hag hP hD hK hS hl
  obtain ⟨hd, rfl⟩ := hd
  exact lv_icmp_ge hO.1 hO.2.1 hd ht (fun h => absurd h hc) (fun _ => k _ _ _ _ _ _ _ _ _ _ _ _ _ _ _ hO ad H locs ls hag hP hD hK hS hl)
theorem sn_iinc {M : sm_MI} {F : Nat → List (Option Value) → List Value → Prop} {b0 : Bool} {pc pc1 : Nat} {L : List (Option Value)} {st : List Value} {W Wf : List sm_AE} {tk tkf : List Nat} {nc ns nf sf : Nat} {i : Nat} {z : Int} {x : Int32} (y : Int32) (L1 : List (Option Value)) (hd : sm_D M.2.1 pc 3 pc1 (.iinc i z)) (hx : sm_lk L i = some (.int x)) (hy : x + Int32.ofInt z = y) (hn : Nat.ble (i + 1) M.2.2.1 = true) (hL : sm_st1 L i (.int y) = L1) (k : sm_Cn M F b0 Wf tkf nf sf pc1 L1 st W tk nc ns) : sm_Cn M F b0 Wf tkf nf sf pc L st W tk nc ns := by
  intro p l e R s m args below meth c D ca A ad0 Q hO ad H locs ls hag hP hD hK hS hl
  obtain ⟨hd, rfl⟩ := hd
  subst hL
  obtain ⟨q, hq⟩ := List.getElem?_of_mem (sm_loc_mem (ad := ad) (i := 0).mpr ⟨i, _, hx, rfl⟩)
  rw [Nat.zero_add] at hq
  exact lv_iinc hO.1 hO.2.1 hd hl hq hy (Nat.le_of_ble_eq_true hn) rfl (fun ls1 h1 => k _ _ _ _ _ _ _ _ _ _ _ _ _ _ _ hO ad H locs _ hag hP hD hK hS (sm_has1 (v := .int y) h1))
theorem sn_max {M : sm_MI} {F : Nat → List (Option Value) → List Value → Prop} {b0 : Bool} {pc pc1 : Nat} {L : List (Option Value)} {st : List Value} {W Wf : List sm_AE} {tk tkf : List Nat} {nc ns nf sf : Nat} {idx : Nat} {x y : Int32} (z : Int32) (hd : sm_D M.2.1 pc 3 pc1 (.invokestatic idx)) (hlk : Cond.methodLink M.1.cls idx Lib.Math.max.name ∈ lw_tbl) (h1 : Cond.static Lib.Math.max.name ∈ lw_tbl) (h2 : Cond.initialized "java/lang/Math" ∈ lw_tbl) (h3 : Cond.code Lib.Math.max.name Lib.Math.max.code 2 (some .int) ∈ lw_tbl) (hk : 1 ≤ M.2.2.2.2) (hcat : Nat.ble (st.map fun v => v.category).sum 8 = true) (hz : (if x < y then y else x) = z) (hcf : nc ≤ nf ∧ ns ≤ sf) (k : sm_Cn M F b0 Wf tkf nf sf pc1 L (.int z :: st) W tk nc ns) : sm_Cn M F b0 Wf tkf nf sf pc L (.int y :: .int x :: st) W tk nc ns := by
  intro p l e R s m args below meth c D ca A ad0 Q hO ad H locs ls hag hP hD hK hS hl
  obtain ⟨hd, rfl⟩ := hd
  subst hz
  have hts := hO.2.2.2.2.1
  have hR := hO.2.2.2.2.2.2.2.2.2.2.1
  have h9 := sm_catr (ad := ad) hcat
  exact va_mmax hO.1 hO.2.1 (hO.2.2.1.trans hl.1.symm) hO.2.2.2.1 (sm_wgood hts hlk rfl) (sm_wgood hts h1 rfl) (sm_wgood hts h2 rfl) (sm_wgood hts h3 rfl) (by omega) (by omega) (by omega) (by omega) hd (k _ _ _ _ _ _ _ _ _ _ _ _ _ _ _ hO ad H locs ls hag hP hD hK hS hl)
theorem sn_getR {M : sm_MI} {F : Nat → List (Option Value) → List Value → Prop} {b0 : Bool} {pc pc1 : Nat} {L : List (Option Value)} {st : List Value} {W Wf : List sm_AE} {tk tkf : List Nat} {nc ns nf sf : Nat} {idx k ci j : Nat} {fs : List Value} (x : Nat) (hd : sm_D M.2.1 pc 3 pc1 (.getfield idx)) (hF : sm_FL M.1.cls idx ci j) (hs : W[k]? = some (.inl (ci, fs))) (hf : fs[j]? = some (.ref x)) (kk : sm_Cn M F b0 Wf tkf nf sf pc1 L (.ref x :: st) W tk nc ns) : sm_Cn M F b0 Wf tkf nf sf pc L (.ref k :: st) W tk nc ns := by
  intro p l e R s m args below meth c D ca A ad0 Q hO ad H locs ls hag hP hD hK hS hl
  obtain ⟨hd, rfl⟩ := hd
  obtain ⟨C, T, N, hc, hj, hT, hin, hlk⟩ := hF
  have hv : (fs.map (sm_tr ad))[j]? = some (.ref (ad x)) := by rw [List.getElem?_map, hf]; rfl
  obtain ⟨hx, hb, hml, hown, hts, hZ, -⟩ := id hO
  rcases hlk with hlk | ⟨host, hlk⟩
  · exact va_get hx hb hts (sm_wsin hin) hown hK hP k (sm_dget hs) hc j hj (sm_wgood hts hlk rfl) (fun _ h9 => by rw [← hT]; exact h9) hv hd (kk _ _ _ _ _ _ _ _ _ _ _ _ _ _ _ hO ad H locs ls hag hP hD hK hS hl)
  · exact va_getN hx hb hts (sm_wsin hin) hown hK hP k (sm_dget hs) hc j hj (va_Nw.use rfl (hZ _ hlk rfl)) (fun _ h9 => by rw [← hT]; exact h9) hv hd (kk _ _ _ _ _ _ _ _ _ _ _ _ _ _ _ hO ad H locs ls hag hP hD hK hS hl)
/-- a field's word for a constructor: final or not -/
def sm_FC (own : String) (idx ci j : Nat) (fin : Bool) (ty : FieldType) : Prop := ∃ (C : String) (T : u_T) (N : Nat) (t0 : Nat → FieldType), vwCl[ci]? = some (C, T, N) ∧ j < N ∧ (T j).1 = C ∧ C = own ∧ (∀ z ∈ u_ws C T N, z ∈ lw_tbl) ∧ (∀ k, k < N → parseFieldDescriptor (T k).2.2.1 = some (t0 k)) ∧ (∀ a, a < N → ∀ b, b < N → a ≠ b → (T a).2.1 ≠ (T b).2.1) ∧ (T j).2.2.2 = fin ∧ parseFieldDescriptor (T j).2.2.1 = some ty ∧ Cond.fieldLink own idx C (T j).2.1 (T j).2.2.1 ∈ lw_tbl
theorem sm_dputc {ad : Nat → Nat} {ca : Nat → ClassId} {W : List sm_AE} {k ci j : Nat} {fs : List Value} {v : Value} : (sm_dconc ad ca W).set k (ad k, .inr (ci, (fs.map (sm_tr ad)).set j (sm_tr ad v))) = sm_dconc ad ca (W.set k (.inl (ci, fs.set j v))) := by
  rw [← sm_dset]
  simp only [sm_dcell, List.map_set]
theorem sn_put {M : sm_MI} {F : Nat → List (Option Value) → List Value → Prop} {b0 : Bool} {pc pc1 : Nat} {L : List (Option Value)} {st : List Value} {W Wf : List sm_AE} {tk tkf : List Nat} {nc ns nf sf : Nat} {idx k ci j : Nat} {fs : List Value} {fin : Bool} {ty : FieldType} {v : Value} (W1 : List sm_AE) (hd : sm_D M.2.1 pc 3 pc1 (.putfield idx)) (hF : sm_FC M.1.cls idx ci j fin ty) (hi : M.1.name = "<init>") (hs : W[k]? = some (.inl (ci, fs))) (hl2 : Nat.ble (j + 1) fs.length = true) (hn : ∀ ad, narrow ty (sm_tr ad v) = sm_tr ad v) (hfit : ∀ ad, fits ty (sm_tr ad v) = true) (hW : W.set k (.inl (ci, fs.set j v)) = W1) (kk : sm_Cn M F b0 Wf tkf nf sf pc1 L st W1 tk nc ns) : sm_Cn M F b0 Wf tkf nf sf pc L (v :: .ref k :: st) W tk nc ns := by
  intro p l e R s m args below meth c D ca A ad0 Q hO ad H locs ls hag hP hD hK hS hl
  obtain ⟨hd, rfl⟩ := hd
  subst hW
  obtain ⟨C, T, N, t0, hc, hj, hT, hCo, hin, hty, hnm, hfin, hpd, hlk⟩ := hF
  obtain ⟨hx, hb, hml, hown, hts, hZ, -, -, hmn, -⟩ := id hO
  have hl3 : j < (fs.map (sm_tr ad)).length := by rw [List.length_map]; exact Nat.le_of_ble_eq_true hl2
  cases fin with
  | false => exact va_put hx hb hts (sm_wsin hin) t0 hty hnm hown hK hP hD hS k (sm_dget hs) hc j hj (sm_wgood hts hlk rfl) (fun _ h9 => by rw [← hT]; exact h9) hfin hpd (hn ad) (hfit ad) hl3 hd (fun H1 locs1 h1 h2 h3 => kk _ _ _ _ _ _ _ _ _ _ _ _ _ _ _ hO ad H1 locs1 ls hag (by rw [← sm_dputc]; exact h1) (by rw [← sm_dputc]; exact h2) hK h3 hl)
  | true => exact va_putF hx hb hts (sm_wsin hin) t0 hty hnm hown hK hP hD hS k (sm_dget hs) hc j hj (sm_wgood hts hlk rfl) (fun _ h9 => by rw [← hT]; exact h9) hfin (hmn hi) (hT.trans hCo) hpd (hn ad) (hfit ad) hl3 hd (fun H1 locs1 h1 h2 h3 => kk _ _ _ _ _ _ _ _ _ _ _ _ _ _ _ hO ad H1 locs1 ls hag (by rw [← sm_dputc]; exact h1) (by rw [← sm_dputc]; exact h2) hK h3 hl)
theorem sn_iast {M : sm_MI} {F : Nat → List (Option Value) → List Value → Prop} {b0 : Bool} {pc pc1 : Nat} {L : List (Option Value)} {st : List Value} {W Wf : List sm_AE} {tk tkf : List Nat} {nc ns nf sf : Nat} {k n t0 : Nat} {f : Nat → Int32} {i x : Int32} (W1 : List sm_AE) (hd : sm_D M.2.1 pc 1 pc1 .iastore) (hs : W[k]? = some (.inr (.inl (n, f)))) (ht : tk[t0]? = some 0) (hin : ¬ (i < 0 ∨ n ≤ i.toNatClampNeg)) (hW : W.set k (.inr (.inl (n, upd f i.toNatClampNeg x))) = W1) (kk : sm_Cn M F b0 Wf tkf nf sf pc1 L st W1 tk nc ns) : sm_Cn M F b0 Wf tkf nf sf pc L (.int x :: .int i :: .ref k :: st) W tk nc ns := by
  intro p l e R s m args below meth c D ca A ad0 Q hO ad H locs ls hag hP hD hK hS hl
  obtain ⟨hd, rfl⟩ := hd
  subst hW
  have ht2 : (sm_ctys ca tk)[t0]? = some (ca 0, .int) := by unfold sm_ctys; rw [List.getElem?_map, ht]; rfl
  have e : (sm_dconc ad ca W).set k (ad k, .inl (ca 0, n, .inl (upd f i.toNatClampNeg x))) = sm_dconc ad ca (W.set k (.inr (.inl (n, upd f i.toNatClampNeg x)))) := sm_dset (.inr (.inl (n, upd f i.toNatClampNeg x)))
  exact va_iast hO.1 hO.2.1 hK hP hD hS k t0 (sm_dget hs) ht2 hin hd (fun H1 locs1 h1 h2 h3 => kk _ _ _ _ _ _ _ _ _ _ _ _ _ _ _ hO ad H1 locs1 ls hag (by rw [← e]; exact h1) (by rw [← e]; exact h2) hK h3 hl)
theorem sn_aast {M : sm_MI} {F : Nat → List (Option Value) → List Value → Prop} {b0 : Bool} {pc pc1 : Nat} {L : List (Option Value)} {st : List Value} {W Wf : List sm_AE} {tk tkf : List Nat} {nc ns nf sf : Nat} {k t t0 v ci : Nat} {ids : List (Option Nat)} {fs : List Value} {T : u_T} {N : Nat} {C : String} {i : Int32} (W1 : List sm_AE) (hd : sm_D M.2.1 pc 1 pc1 .aastore) (hs : W[k]? = some (.inr (.inr (t, ids)))) (hv : W[v]? = some (.inl (ci, fs))) (hc : vwCl[ci]? = some (C, T, N)) (ht : tk[t0]? = some t) (hty : sm_ty t = .object C) (hin : ¬ (i < 0 ∨ ids.length ≤ i.toNatClampNeg)) (hW : W.set k (.inr (.inr (t, ids.set i.toNatClampNeg (some v)))) = W1) (kk : sm_Cn M F b0 Wf tkf nf sf pc1 L st W1 tk nc ns) : sm_Cn M F b0 Wf tkf nf sf pc L (.ref v :: .int i :: .ref k :: st) W tk nc ns := by
  intro p l e R s m args below meth c D ca A ad0 Q hO ad H locs ls hag hP hD hK hS hl
  obtain ⟨hd, rfl⟩ := hd
  subst hW
  have ht2 : (sm_ctys ca tk)[t0]? = some (ca t, .object C) := by unfold sm_ctys; rw [List.getElem?_map, ht, ← hty]; rfl
  have ef : va_up (fun j => ((ids[j]?).getD none).map ad) i.toNatClampNeg (some (ad v)) = (fun j => (((ids.set i.toNatClampNeg (some v))[j]?).getD none).map ad) := by
    funext j
    unfold va_up
    by_cases hj : j = i.toNatClampNeg
    · subst hj
      have hlt : i.toNatClampNeg < ids.length := Nat.not_le.mp fun q => hin (Or.inr q)
      rw [if_pos rfl, List.getElem?_set_self hlt]
      rfl
    · rw [if_neg hj, List.getElem?_set_ne (fun q => hj q.symm)]
  have e : (sm_dconc ad ca W).set k (ad k, .inl (ca t, ids.length, .inr (.inr (.inr (.inr (va_up (fun j => ((ids[j]?).getD none).map ad) i.toNatClampNeg (some (ad v)))))))) = sm_dconc ad ca (W.set k (.inr (.inr (t, ids.set i.toNatClampNeg (some v))))) := by
    rw [ef, ← sm_dset]
    simp only [sm_dcell, List.length_set]
  exact va_astq (r := (C, T, N)) hO.1 hO.2.1 hK hP hD hS k t0 v ci (sm_dget hs) ht2 (sm_dget hv) hc hin hd (fun H1 locs1 h1 h2 h3 => kk _ _ _ _ _ _ _ _ _ _ _ _ _ _ _ hO ad H1 locs1 ls hag (by rw [← e]; exact h1) (by rw [← e]; exact h2) hK h3 hl)
/-! making -/
theorem sm_objW {p : Program} {l : Launch} {e : Env} {R : Room} {s : State} {m : MethodId} {args : Array Value} {below : List Frame} {meth : Method} {c : Code} {H : Heap} {locs : List Loc} {cells slots : Nat} {Q : State → Prop} {cc : ByteArray} (hx : p.tables.exec = Jvm.exec) (hb : c.code = cc) {own : String} (hown : s.vm.findClass own = some m.cls) {idx pc a : Nat} {ls : Array Slot} {rest : List Value} (hlink : (Cond.methodLink own idx Lib.objectInit).before args s = true) (hinst : (Cond.instanceMethod Lib.objectInit).before args s = true) (hcode : (Cond.code Lib.objectInit ⟨#[0xb1]⟩ 1 none).before args s = true) (hsize : ls.size = c.maxLocals) (hd : decode cc pc = .ok (.invokespecial idx, 3)) (hf : 1 ≤ R.frames) (hl : (rest.map fun v => v.category).sum + 12 ≤ R.locals) (kk : W p l e R s m args below meth c H locs cells slots Q (F0 m (pc + 3) ls rest)) : W p l e R s m args below meth c H locs cells slots Q (F0 m pc ls (.ref a :: rest)) :=
  W.objInit hx hb hown hlink hinst hcode rfl hsize rfl hd hf (show 2 * 0 + (rest.map fun v => v.category).sum + 12 ≤ _ by omega) kk
def sm_adn (ad : Nat → Nat) (n q : Nat) : Nat → Nat := fun i => if i = n then q else ad i
theorem sm_adn_ne {ad : Nat → Nat} {n q i : Nat} (h : ¬ (n ≤ i ∧ i < n + 1)) : sm_adn ad n q i = ad i := if_neg (fun z => h ⟨by omega, by omega⟩)
theorem sm_adn_self {ad : Nat → Nat} {n q : Nat} : sm_adn ad n q n = q := if_pos rfl
theorem sm_dgrow {ad : Nat → Nat} {ca : Nat → ClassId} {W : List sm_AE} {q : Nat} {x : sm_AE} (hW : W.all (sm_nc W.length (W.length + 1)) = true) (hx : sm_nc W.length (W.length + 1) x = true) : sm_dconc ad ca W ++ [(q, sm_dcell ad ca x)] = sm_dconc (sm_adn ad W.length q) ca (W ++ [x]) := by
  show sm_dfrom ad ca 0 W ++ _ = sm_dfrom (sm_adn ad W.length q) ca 0 (W ++ [x])
  rw [sm_dfrom_app, sm_nc_from (ad := ad) (fun i hi => sm_adn_ne hi) hW (by omega), sm_dfrom, sm_dfrom, sm_nc_cell (ad := ad) (fun i hi => sm_adn_ne hi) hx, Nat.zero_add, sm_adn_self]
def sm_fresh (W : List sm_AE) (L : List (Option Value)) (st : List Value) (b0 : Bool) : Bool := W.all (sm_nc W.length (W.length + 1)) && (L.all (sm_no W.length (W.length + 1)) && (st.all (sm_nv W.length (W.length + 1)) && (Nat.blt W.length 900 && (!b0 || Nat.blt 0 W.length))))
theorem sm_fresh_spec {W : List sm_AE} {L : List (Option Value)} {st : List Value} {b0 : Bool} (h : sm_fresh W L st b0 = true) : W.all (sm_nc W.length (W.length + 1)) = true ∧ L.all (sm_no W.length (W.length + 1)) = true ∧ st.all (sm_nv W.length (W.length + 1)) = true ∧ W.length < 900 ∧ (b0 = true → 0 < W.length) := by
  unfold sm_fresh at h
  simp only [Bool.and_eq_true, Bool.or_eq_true, Nat.blt_eq, Bool.not_eq_true'] at h
  obtain ⟨h1, h2, h3, h4, h5⟩ := h
  refine ⟨h1, h2, h3, h4, fun hb => ?_⟩
  rcases h5 with h5 | h5
  · rw [hb] at h5; cases h5
  · exact h5
theorem sm_agn {ad ad0 : Nat → Nat} {b0 : Bool} {n q : Nat} (h : ∀ i, (b0 = true ∧ i = 0) ∨ 900 ≤ i → ad i = ad0 i) (h1 : n < 900) (h2 : b0 = true → 0 < n) : ∀ i, (b0 = true ∧ i = 0) ∨ 900 ≤ i → sm_adn ad n q i = ad0 i := by
  intro i hi
  have hne : i ≠ n := by
    rcases hi with ⟨hb, hz⟩ | hz
    · have := h2 hb
      omega
    · omega
  show (if i = n then q else ad i) = ad0 i
  rw [if_neg hne]
  exact h i hi
theorem sn_newa {M : sm_MI} {F : Nat → List (Option Value) → List Value → Prop} {b0 : Bool} {pc pc1 : Nat} {L : List (Option Value)} {st : List Value} {W Wf : List sm_AE} {tk tkf : List Nat} {nc ns nf sf : Nat} {n : Int32} {N : Nat} (hd : sm_D M.2.1 pc 2 pc1 (.newarray .int)) (hN : n.toNatClampNeg = N) (hn : ¬ n < 0) (hb : N * componentBytes .int ≤ 536870912) (hf : sm_fresh W L st b0 = true) (hcf : nc + 1 ≤ nf ∧ ns + N ≤ sf) (hw : Cond.arrayClass .int ∈ lw_tbl) (kk : sm_Cn M F b0 Wf tkf nf sf pc1 L (.ref W.length :: st) (W ++ [.inr (.inl (N, fun _ => 0))]) (tk ++ [0]) (nc + 1) (ns + N)) : sm_Cn M F b0 Wf tkf nf sf pc L (.int n :: st) W tk nc ns := by
  intro p l e R s m args below meth c D ca A ad0 Q hO ad H locs ls hag hP hD hK hS hl
  obtain ⟨hd, rfl⟩ := hd
  obtain ⟨f1, f2, f3, f4, f5⟩ := sm_fresh_spec hf
  have hR := hO.2.2.2.2.2.2.2.2.2.2.1
  refine va_newa (atype := .int) (ty := .int) (a0 := (N, .inl (fun _ => 0))) hO.1 hO.2.1 (sm_wgood hO.2.2.2.2.1 hw rfl) rfl hK hP hD hS hO.2.2.2.2.2.2.1 (fun cA => rfl) hn hN hb (by omega) (by omega) hd (fun q cA H1 h1 h2 h3 h4 => ?_)
  have hca : ca 0 = cA := by
    have h5 := (h1.2 (sm_ctys ca tk).length (cA, .int) (by simp)).2
    exact hO.2.2.2.2.2.2.2.1 0 cA h5
  subst hca
  have e := sm_dgrow (ad := ad) (ca := ca) (q := q) (x := .inr (.inl (N, fun _ => 0))) f1 rfl
  have hst : (.ref q :: st.map (sm_tr ad) : List Value) = (.ref W.length :: st : List Value).map (sm_tr (sm_adn ad W.length q)) := by
    rw [List.map_cons, sm_nv_st (ad := ad) (fun i hi => sm_adn_ne hi) f3]
    show _ = Value.ref (sm_adn ad W.length q W.length) :: _
    rw [sm_adn_self]
  rw [hst]
  refine kk _ _ _ _ _ _ _ _ _ _ _ _ _ _ _ hO (sm_adn ad W.length q) H1 locs ls (sm_agn hag f4 f5) (by rw [← e]; exact h2) (by rw [← e]; exact h3) ?_ h4 (by rw [sm_no_loc (ad := ad) (fun i hi => sm_adn_ne hi) f2]; exact hl)
  unfold sm_ctys
  rw [List.map_append]
  exact h1
theorem sn_newq {M : sm_MI} {F : Nat → List (Option Value) → List Value → Prop} {b0 : Bool} {pc pc1 : Nat} {L : List (Option Value)} {st : List Value} {W Wf : List sm_AE} {tk tkf : List Nat} {nc ns nf sf : Nat} {idx t : Nat} {C : String} {n : Int32} {N : Nat} (hd : sm_D M.2.1 pc 3 pc1 (.anewarray idx)) (hcl : Cond.classLink M.1.cls idx C ∈ lw_tbl) (hov : Cond.arrayOver (.object C) ∈ lw_tbl) (hty : sm_ty t = .object C) (hN : n.toNatClampNeg = N) (hn : ¬ n < 0) (hb : N * 4 ≤ 536870912) (hf : sm_fresh W L st b0 = true) (hcf : nc + 1 ≤ nf ∧ ns + N ≤ sf) (kk : sm_Cn M F b0 Wf tkf nf sf pc1 L (.ref W.length :: st) (W ++ [.inr (.inr (t, List.replicate N none))]) (tk ++ [t]) (nc + 1) (ns + N)) : sm_Cn M F b0 Wf tkf nf sf pc L (.int n :: st) W tk nc ns := by
  intro p l e R s m args below meth c D ca A ad0 Q hO ad H locs ls hag hP hD hK hS hl
  obtain ⟨hd, rfl⟩ := hd
  obtain ⟨f1, f2, f3, f4, f5⟩ := sm_fresh_spec hf
  have hR := hO.2.2.2.2.2.2.2.2.2.2.1
  refine va_newq hO.1 hO.2.1 hO.2.2.2.1 (sm_wgood hO.2.2.2.2.1 hcl rfl) (hO.2.2.2.2.2.2.2.2.2.1 C hov) hK hP hD hS hO.2.2.2.2.2.2.1 hn hN hb (by omega) (by omega) hd (fun q cA H1 h1 h2 h3 h4 => ?_)
  have hca : ca t = cA := by
    have h5 := (h1.2 (sm_ctys ca tk).length (cA, .object C) (by simp)).2
    obtain ⟨kA, comp, -, -, -, h6⟩ := h5
    refine hO.2.2.2.2.2.2.2.1 t cA ?_
    unfold sm_nm
    rw [hty]
    exact h6
  subst hca
  have hem : (fun _ => none : Nat → Option Nat) = (fun j => (((List.replicate N (none : Option Nat))[j]?).getD none).map ad) := by
    funext j
    by_cases hj : j < N
    · simp [hj]
    · simp [hj]
  have e := sm_dgrow (ad := ad) (ca := ca) (q := q) (x := .inr (.inr (t, List.replicate N none))) f1 (by simp [sm_nc])
  have e2 : sm_dcell ad ca (.inr (.inr (t, List.replicate N none))) = .inl (ca t, N, .inr (.inr (.inr (.inr (fun _ => none))))) := by
    rw [hem]
    simp only [sm_dcell, List.length_replicate]
  rw [e2] at e
  have hst : (.ref q :: st.map (sm_tr ad) : List Value) = (.ref W.length :: st : List Value).map (sm_tr (sm_adn ad W.length q)) := by
    rw [List.map_cons, sm_nv_st (ad := ad) (fun i hi => sm_adn_ne hi) f3]
    show _ = Value.ref (sm_adn ad W.length q W.length) :: _
    rw [sm_adn_self]
  rw [hst]
  refine kk _ _ _ _ _ _ _ _ _ _ _ _ _ _ _ hO (sm_adn ad W.length q) H1 locs ls (sm_agn hag f4 f5) (by rw [← e]; exact h2) (by rw [← e]; exact h3) ?_ h4 (by rw [sm_no_loc (ad := ad) (fun i hi => sm_adn_ne hi) f2]; exact hl)
  unfold sm_ctys
  rw [List.map_append, List.map_singleton, hty]
  exact h1
def sm_pl : Value → Bool
  | .ref _ => false
  | _ => true
theorem sn_new {M : sm_MI} {F : Nat → List (Option Value) → List Value → Prop} {b0 : Bool} {pc pc1 : Nat} {L : List (Option Value)} {st : List Value} {W Wf : List sm_AE} {tk tkf : List Nat} {nc ns nf sf : Nat} {idx ci : Nat} {C : String} {T : u_T} {N : Nat} (fs : List Value) (ty : Nat → FieldType) (hd : sm_D M.2.1 pc 3 pc1 (.new idx)) (hc : vwCl[ci]? = some (C, T, N)) (hin : ∀ z ∈ u_ws C T N, z ∈ lw_tbl) (hty : ∀ k, k < N → parseFieldDescriptor (T k).2.2.1 = some (ty k)) (hcl : Cond.classLink M.1.cls idx C ∈ lw_tbl) (hins : Cond.instantiable C N ∈ lw_tbl) (hini : Cond.initialized C ∈ lw_tbl) (hfs : ∀ j, j < N → defaultValue (ty j) = vp_V fs j) (hpl : fs.all sm_pl = true) (hf : sm_fresh W L st b0 = true) (hcf : nc + 1 ≤ nf ∧ ns + N ≤ sf) (kk : sm_Cn M F b0 Wf tkf nf sf pc1 L (.ref W.length :: st) (W ++ [.inl (ci, fs)]) tk (nc + 1) (ns + N)) : sm_Cn M F b0 Wf tkf nf sf pc L st W tk nc ns := by
  intro p l e R s m args below meth c D ca A ad0 Q hO ad H locs ls hag hP hD hK hS hl
  obtain ⟨hd, rfl⟩ := hd
  obtain ⟨f1, f2, f3, f4, f5⟩ := sm_fresh_spec hf
  have hR := hO.2.2.2.2.2.2.2.2.2.2.1
  refine va_new (ci := ci) (fs := fs) (C := C) (T := T) (N := N) hO.1 hO.2.1 hO.2.2.2.2.1 (sm_wsin hin) ty hty hO.2.2.2.1 (sm_wgood hO.2.2.2.2.1 hcl rfl) (sm_wgood hO.2.2.2.2.1 hins rfl) (sm_wgood hO.2.2.2.2.1 hini rfl) hK hP hD hS hO.2.2.2.2.2.2.1 hc hfs (by omega) (by omega) hd (fun q H1 h2 h3 h4 => ?_)
  have hnr : ∀ v ∈ fs, sm_nv W.length (W.length + 1) v = true ∧ sm_tr ad v = v := by
    intro v hv
    have h5 := List.all_eq_true.mp hpl v hv
    cases v with
    | ref a =>
      cases h5
    | _ => exact ⟨rfl, rfl⟩
  have e2 : sm_dcell ad ca (.inl (ci, fs)) = .inr (ci, fs) := by
    have h6 : fs.map (sm_tr ad) = fs := by
      conv => rhs; rw [← List.map_id fs]
      exact List.map_congr_left (fun v hv => (hnr v hv).2)
    simp only [sm_dcell, h6]
  have e := sm_dgrow (ad := ad) (ca := ca) (q := q) (x := .inl (ci, fs)) f1 (List.all_eq_true.mpr (fun v hv => (hnr v hv).1))
  rw [e2] at e
  have hst : (.ref q :: st.map (sm_tr ad) : List Value) = (.ref W.length :: st : List Value).map (sm_tr (sm_adn ad W.length q)) := by
    rw [List.map_cons, sm_nv_st (ad := ad) (fun i hi => sm_adn_ne hi) f3]
    show _ = Value.ref (sm_adn ad W.length q W.length) :: _
    rw [sm_adn_self]
  rw [hst]
  exact kk _ _ _ _ _ _ _ _ _ _ _ _ _ _ _ hO (sm_adn ad W.length q) H1 locs ls (sm_agn hag f4 f5) (by rw [← e]; exact h2) (by rw [← e]; exact h3) hK h4 (by rw [sm_no_loc (ad := ad) (fun i hi => sm_adn_ne hi) f2]; exact hl)
theorem sn_obj {M : sm_MI} {F : Nat → List (Option Value) → List Value → Prop} {b0 : Bool} {pc pc1 : Nat} {L : List (Option Value)} {st : List Value} {W Wf : List sm_AE} {tk tkf : List Nat} {nc ns nf sf : Nat} {idx k : Nat} (hd : sm_D M.2.1 pc 3 pc1 (.invokespecial idx)) (hlk : Cond.methodLink M.1.cls idx Lib.objectInit ∈ lw_tbl) (h1 : Cond.instanceMethod Lib.objectInit ∈ lw_tbl) (h2 : Cond.code Lib.objectInit ⟨#[0xb1]⟩ 1 none ∈ lw_tbl) (hk : 1 ≤ M.2.2.2.2) (hcat : Nat.ble (st.map fun v => v.category).sum 8 = true) (kk : sm_Cn M F b0 Wf tkf nf sf pc1 L st W tk nc ns) : sm_Cn M F b0 Wf tkf nf sf pc L (.ref k :: st) W tk nc ns := by
  intro p l e R s m args below meth c D ca A ad0 Q hO ad H locs ls hag hP hD hK hS hl
  obtain ⟨hd, rfl⟩ := hd
  have hts := hO.2.2.2.2.1
  have hR := hO.2.2.2.2.2.2.2.2.2.2.1
  have h9 := sm_catr (ad := ad) hcat
  exact sm_objW hO.1 hO.2.1 hO.2.2.2.1 (sm_wgood hts hlk rfl) (sm_wgood hts h1 rfl) (sm_wgood hts h2 rfl) (hl.1.trans hO.2.2.1.symm) hd (by omega) (by omega) (kk _ _ _ _ _ _ _ _ _ _ _ _ _ _ _ hO ad H locs ls hag hP hD hK hS hl)
