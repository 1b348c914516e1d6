/-! the memory of class and reference: cell, place; the shape of the world, which stays; pictures of it -/
abbrev sm_Mem : Type := (Nat → Nat → Int32) × (Nat → Nat → Int64)
abbrev sm_MI : Type := MethodName × ByteArray × Nat × Option FieldType × Nat
abbrev sm_SH : Type := (Nat × List (Nat × Nat)) ⊕ (Nat ⊕ (Nat × List Nat))
abbrev sm_R : Type := Option (Value × sm_Mem)
def sm_wI (w : sm_Mem) (k j : Nat) (x : Int32) : sm_Mem := (fun a b => if a = k ∧ b = j then x else w.1 a b, w.2)
def sm_wL (w : sm_Mem) (k j : Nat) (x : Int64) : sm_Mem := (w.1, fun a b => if a = k ∧ b = j then x else w.2 a b)
def sm_shape : List sm_SH := [.inl (6, [(2, 1), (2, 14), (2, 36), (2, 23), (2, 49), (2, 56), (2, 60)]), .inr (.inr (1, [2, 4, 6, 8, 10, 12])), .inl (2, [(2, 3), (0, 0)]), .inr (.inl 40), .inl (2, [(2, 5), (0, 0)]), .inr (.inl 40), .inl (2, [(2, 7), (0, 0)]), .inr (.inl 40), .inl (2, [(2, 9), (0, 0)]), .inr (.inl 40), .inl (2, [(2, 11), (0, 0)]), .inr (.inl 40), .inl (2, [(2, 13), (0, 0)]), .inr (.inl 40), .inr (.inr (1, [15, 17, 19, 21])), .inl (2, [(2, 16), (0, 0)]), .inr (.inl 60), .inl (2, [(2, 18), (0, 0)]), .inr (.inl 60), .inl (2, [(2, 20), (0, 0)]), .inr (.inl 60), .inl (2, [(2, 22), (0, 0)]), .inr (.inl 60), .inr (.inr (2, [24, 28, 32])), .inl (0, [(2, 25), (2, 26), (2, 27), (0, 0)]), .inr (.inl 40), .inr (.inl 40), .inr (.inl 40), .inl (0, [(2, 29), (2, 30), (2, 31), (0, 0)]), .inr (.inl 40), .inr (.inl 40), .inr (.inl 40), .inl (0, [(2, 33), (2, 34), (2, 35), (0, 0)]), .inr (.inl 40), .inr (.inl 40), .inr (.inl 40), .inl (1, [(0, 0), (2, 37), (2, 38), (2, 39), (2, 40), (2, 41), (2, 42), (0, 0), (0, 0), (2, 43), (2, 44), (0, 0), (2, 45)]), .inr (.inl 6), .inr (.inl 6), .inr (.inl 6), .inr (.inl 6), .inr (.inl 6), .inr (.inl 6), .inr (.inl 8), .inr (.inl 8), .inl (0, [(2, 46), (2, 47), (2, 48), (0, 0)]), .inr (.inl 40), .inr (.inl 40), .inr (.inl 40), .inl (5, [(2, 36), (2, 50), (2, 51), (0, 0), (2, 52), (2, 53), (2, 54), (2, 55), (0, 0), (0, 0), (0, 0), (0, 0), (0, 0), (0, 0)]), .inr (.inl 5), .inr (.inl 5), .inr (.inl 5), .inr (.inl 6), .inr (.inl 64), .inr (.inl 5), .inl (4, [(2, 36), (2, 57), (2, 58), (0, 0), (2, 59)]), .inr (.inl 4), .inr (.inl 4), .inr (.inl 9), .inl (3, [(0, 0), (1, 0), (1, 0), (0, 0), (2, 61)]), .inr (.inl 6), .inr (.inl 19), .inr (.inl 31), .inr (.inl 8)]
def sm_val (ad : Nat → Nat) (w : sm_Mem) (k j : Nat) (f : Nat × Nat) : Value := match f.1 with
  | 0 => .int (w.1 k j)
  | 1 => .long (w.2 k j)
  | _ => .ref (ad f.2)
def sm_cell (ad : Nat → Nat) (ca : Nat → ClassId) (w : sm_Mem) (k : Nat) (sh : sm_SH) : va_E := match sh with
  | .inl (ci, fs) => .inr (ci, fs.mapIdx (fun j f => sm_val ad w k j f))
  | .inr (.inl n) => .inl (ca 0, n, .inl (w.1 k))
  | .inr (.inr (t, ids)) => .inl (ca t, ids.length, .inr (.inr (.inr (.inr (fun j => (ids[j]?).map ad)))))
def sm_conc (ad : Nat → Nat) (ca : Nat → ClassId) (w : sm_Mem) : va_W := sm_shape.mapIdx (fun k sh => (ad k, sm_cell ad ca w k sh))
def sm_tys (ca : Nat → ClassId) : List (ClassId × FieldType) := [(ca 0, .int), (ca 1, .object "HerOrders$Row"), (ca 2, .object "HerOrders$Deeds")]
theorem sm_get {ad : Nat → Nat} {ca : Nat → ClassId} {w : sm_Mem} {k : Nat} {sh : sm_SH} (h : sm_shape[k]? = some sh) : (sm_conc ad ca w)[k]? = some (ad k, sm_cell ad ca w k sh) := by
  unfold sm_conc
  rw [List.getElem?_mapIdx, h]
  rfl
theorem sm_cell_neI {ad : Nat → Nat} {ca : Nat → ClassId} {w : sm_Mem} {k i j : Nat} {x : Int32} (sh : sm_SH) (h : i ≠ k) : sm_cell ad ca (sm_wI w k j x) i sh = sm_cell ad ca w i sh := by
  rcases sh with ⟨ci, fs⟩ | n | ⟨t, ids⟩
  · have e : (fun (a : Nat) (f : Nat × Nat) => sm_val ad (sm_wI w k j x) i a f) = (fun a f => sm_val ad w i a f) := by
      funext a f
      unfold sm_val
      split <;> simp [sm_wI, h]
    simp only [sm_cell, e]
  · have e : (sm_wI w k j x).1 i = w.1 i := by
      funext b
      simp [sm_wI, h]
    simp only [sm_cell, e]
  · rfl
theorem sm_cell_neL {ad : Nat → Nat} {ca : Nat → ClassId} {w : sm_Mem} {k i j : Nat} {x : Int64} (sh : sm_SH) (h : i ≠ k) : sm_cell ad ca (sm_wL w k j x) i sh = sm_cell ad ca w i sh := by
  rcases sh with ⟨ci, fs⟩ | n | ⟨t, ids⟩
  · have e : (fun (a : Nat) (f : Nat × Nat) => sm_val ad (sm_wL w k j x) i a f) = (fun a f => sm_val ad w i a f) := by
      funext a f
      unfold sm_val
      split <;> simp [sm_wL, h]
    simp only [sm_cell, e]
  · rfl
  · rfl
theorem sm_setC {ad : Nat → Nat} {ca : Nat → ClassId} {w w' : sm_Mem} {k : Nat} {sh : sm_SH} {e : va_E} (h : sm_shape[k]? = some sh) (hn : ∀ (i : Nat) (z : sm_SH), i ≠ k → sm_cell ad ca w' i z = sm_cell ad ca w i z) (he : e = sm_cell ad ca w' k sh) : (sm_conc ad ca w).set k (ad k, e) = sm_conc ad ca w' := by
  apply List.ext_getElem?
  intro i
  have hk : k < (sm_conc ad ca w).length := (List.getElem?_eq_some_iff.mp (sm_get (ad := ad) (ca := ca) (w := w) h)).1
  by_cases hik : i = k
  · subst hik
    rw [List.getElem?_set_self hk, sm_get h, he]
  · rw [List.getElem?_set_ne (fun q => hik q.symm)]
    unfold sm_conc
    rw [List.getElem?_mapIdx, List.getElem?_mapIdx]
    cases sm_shape[i]? with
    | none => rfl
    | some z => simp [hn i z hik]
theorem sm_setI {ad : Nat → Nat} {ca : Nat → ClassId} {w : sm_Mem} {k ci j c : Nat} {fs : List (Nat × Nat)} (h : sm_shape[k]? = some (.inl (ci, fs))) (hf : fs[j]? = some (0, c)) (x : Int32) : (sm_conc ad ca w).set k (ad k, .inr (ci, (fs.mapIdx (fun j f => sm_val ad w k j f)).set j (.int x))) = sm_conc ad ca (sm_wI w k j x) := by
  refine sm_setC h (fun i z hi => sm_cell_neI z hi) ?_
  simp only [sm_cell]
  refine congrArg (fun q => Sum.inr (ci, q)) ?_
  apply List.ext_getElem?
  intro i
  by_cases hij : i = j
  · subst hij
    have hl : i < fs.length := (List.getElem?_eq_some_iff.mp hf).1
    rw [List.getElem?_set_self (by simpa using hl), List.getElem?_mapIdx, hf]
    simp [sm_val, sm_wI]
  · rw [List.getElem?_set_ne (fun q => hij q.symm), List.getElem?_mapIdx, List.getElem?_mapIdx]
    cases fs[i]? with
    | none => rfl
    | some f =>
      simp only [Option.map_some, sm_val]
      split <;> simp [sm_wI, hij]
theorem sm_setL {ad : Nat → Nat} {ca : Nat → ClassId} {w : sm_Mem} {k ci j c : Nat} {fs : List (Nat × Nat)} (h : sm_shape[k]? = some (.inl (ci, fs))) (hf : fs[j]? = some (1, c)) (x : Int64) : (sm_conc ad ca w).set k (ad k, .inr (ci, (fs.mapIdx (fun j f => sm_val ad w k j f)).set j (.long x))) = sm_conc ad ca (sm_wL w k j x) := by
  refine sm_setC h (fun i z hi => sm_cell_neL z hi) ?_
  simp only [sm_cell]
  refine congrArg (fun q => Sum.inr (ci, q)) ?_
  apply List.ext_getElem?
  intro i
  by_cases hij : i = j
  · subst hij
    have hl : i < fs.length := (List.getElem?_eq_some_iff.mp hf).1
    rw [List.getElem?_set_self (by simpa using hl), List.getElem?_mapIdx, hf]
    simp [sm_val, sm_wL]
  · rw [List.getElem?_set_ne (fun q => hij q.symm), List.getElem?_mapIdx, List.getElem?_mapIdx]
    cases fs[i]? with
    | none => rfl
    | some f =>
      simp only [Option.map_some, sm_val]
      split <;> simp [sm_wL, hij]
theorem sm_setA {ad : Nat → Nat} {ca : Nat → ClassId} {w : sm_Mem} {k n : Nat} (h : sm_shape[k]? = some (.inr (.inl n))) (j : Nat) (x : Int32) : (sm_conc ad ca w).set k (ad k, .inl (ca 0, n, .inl (upd (w.1 k) j x))) = sm_conc ad ca (sm_wI w k j x) := by
  refine sm_setC h (fun i z hi => sm_cell_neI z hi) ?_
  simp only [sm_cell]
  have e : upd (w.1 k) j x = (sm_wI w k j x).1 k := by
    funext b
    simp [upd, sm_wI]
  rw [e]
/-- a whole array anew (System.arraycopy) -/
def sm_wA (w : sm_Mem) (k : Nat) (f : Nat → Int32) : sm_Mem := (fun a b => if a = k then f b else w.1 a b, w.2)
theorem sm_setF {ad : Nat → Nat} {ca : Nat → ClassId} {w : sm_Mem} {k n : Nat} (h : sm_shape[k]? = some (.inr (.inl n))) (f : Nat → Int32) : (sm_conc ad ca w).set k (ad k, .inl (ca 0, n, .inl f)) = sm_conc ad ca (sm_wA w k f) := by
  refine sm_setC h (fun i z hi => ?_) ?_
  · rcases z with ⟨ci, fs⟩ | n | ⟨t, ids⟩
    · have e : (fun (a : Nat) (g : Nat × Nat) => sm_val ad (sm_wA w k f) i a g) = (fun a g => sm_val ad w i a g) := by
        funext a g
        unfold sm_val
        split <;> simp [sm_wA, hi]
      simp only [sm_cell, e]
    · have e : (sm_wA w k f).1 i = w.1 i := by
        funext b
        simp [sm_wA, hi]
      simp only [sm_cell, e]
    · rfl
  · have e : (sm_wA w k f).1 k = f := by
      funext b
      simp [sm_wA]
    simp only [sm_cell, e]
/-! values and locals: a reference is the number of its cell -/
def sm_tr (ad : Nat → Nat) : Value → Value
  | .ref a => .ref (ad a)
  | v => v
theorem sm_tr_cat (ad : Nat → Nat) (v : Value) : (sm_tr ad v).category = v.category := by cases v <;> rfl
def sm_lk : List (Option Value) → Nat → Option Value
  | [], _ => none
  | o :: _, 0 => o
  | _ :: l, n + 1 => sm_lk l n
def sm_set : List (Option Value) → Nat → Option Value → List (Option Value)
  | [], _, _ => []
  | _ :: l, 0, v => v :: l
  | o :: l, n + 1, v => o :: sm_set l n v
def sm_loc (ad : Nat → Nat) : Nat → List (Option Value) → List (Nat × Value)
  | _, [] => []
  | i, none :: l => sm_loc ad (i + 1) l
  | i, some v :: l => (i, sm_tr ad v) :: sm_loc ad (i + 1) l
theorem sm_loc_mem {ad : Nat → Nat} {q : Nat × Value} : ∀ {L : List (Option Value)} {i : Nat}, q ∈ sm_loc ad i L ↔ ∃ (n : Nat) (v : Value), sm_lk L n = some v ∧ q = (i + n, sm_tr ad v)
  | [], i => by simp [sm_loc, sm_lk]
  | none :: l, i => by
    rw [sm_loc, sm_loc_mem]
    constructor
    · rintro ⟨n, v, h1, h2⟩
      exact ⟨n + 1, v, h1, by rw [h2, Nat.add_assoc, Nat.add_comm 1 n]⟩
    · rintro ⟨n, v, h1, h2⟩
      cases n with
      | zero => simp [sm_lk] at h1
      | succ n => exact ⟨n, v, h1, by rw [h2, Nat.add_assoc, Nat.add_comm 1 n]⟩
  | some u :: l, i => by
    rw [sm_loc, List.mem_cons, sm_loc_mem]
    constructor
    · rintro (h | ⟨n, v, h1, h2⟩)
      · exact ⟨0, u, rfl, h⟩
      · exact ⟨n + 1, v, h1, by rw [h2, Nat.add_assoc, Nat.add_comm 1 n]⟩
    · rintro ⟨n, v, h1, h2⟩
      cases n with
      | zero =>
        cases h1
        exact Or.inl h2
      | succ n => exact Or.inr ⟨n, v, h1, by rw [h2, Nat.add_assoc, Nat.add_comm 1 n]⟩
theorem sm_at {ad : Nat → Nat} {ls : Array Slot} {nL : Nat} {L : List (Option Value)} {i : Nat} {v : Value} (h : lv_has ls nL (sm_loc ad 0 L)) (hi : sm_lk L i = some v) : ls[i]? = some (.val (sm_tr ad v)) :=
  h.2.2 (i, sm_tr ad v) (sm_loc_mem.mpr ⟨i, v, hi, by rw [Nat.zero_add]⟩)
theorem sm_lk_set_self : ∀ {L : List (Option Value)} {i : Nat} {o : Option Value} {v : Value}, sm_lk (sm_set L i o) i = some v → o = some v
  | [], i, o, v, h => by simp [sm_set, sm_lk] at h
  | _ :: l, 0, o, v, h => by simpa [sm_set, sm_lk] using h
  | _ :: l, i + 1, o, v, h => by
    rw [sm_set, sm_lk] at h
    exact sm_lk_set_self h
theorem sm_lk_set_ne : ∀ {L : List (Option Value)} {i j : Nat} {o : Option Value}, i ≠ j → sm_lk (sm_set L i o) j = sm_lk L j
  | [], i, j, o, h => rfl
  | _ :: l, 0, 0, o, h => absurd rfl h
  | _ :: l, 0, j + 1, o, h => rfl
  | _ :: l, i + 1, 0, o, h => rfl
  | _ :: l, i + 1, j + 1, o, h => by
    rw [sm_set, sm_lk, sm_lk]
    exact sm_lk_set_ne (fun q => h (by rw [q]))
/-- is a long (or double) held there -/
def sm_two (o : Option Value) : Bool := match o with
  | some (.long _) => true
  | some (.double _) => true
  | _ => false
theorem sm_two_cat {v : Value} (h : v.category = 2) : sm_two (some v) = true := by cases v <;> simp [Value.category] at h <;> rfl
/-- a store of one slot: a long whose second half is there goes -/
def sm_st1 (L : List (Option Value)) (i : Nat) (v : Value) : List (Option Value) := match i with
  | 0 => sm_set L 0 (some v)
  | n + 1 => match sm_two (sm_lk L n) with
    | true => sm_set (sm_set L n none) (n + 1) (some v)
    | false => sm_set L (n + 1) (some v)
def sm_st2 (L : List (Option Value)) (i : Nat) (v : Value) : List (Option Value) := sm_set (sm_st1 L i v) (i + 1) none
theorem sm_st1_lk {L : List (Option Value)} {i n : Nat} {v u : Value} (h : sm_lk (sm_st1 L i v) n = some u) : (n = i ∧ u = v) ∨ (n ≠ i ∧ sm_lk L n = some u ∧ ¬ (n + 1 = i ∧ u.category = 2)) := by
  by_cases hn : n = i
  · subst hn
    refine Or.inl ⟨rfl, ?_⟩
    unfold sm_st1 at h
    split at h
    · exact (Option.some.inj (sm_lk_set_self h)).symm
    · split at h
      · exact (Option.some.inj (sm_lk_set_self h)).symm
      · exact (Option.some.inj (sm_lk_set_self h)).symm
  · refine Or.inr ⟨hn, ?_⟩
    unfold sm_st1 at h
    split at h
    · rw [sm_lk_set_ne (fun q => hn q.symm)] at h
      exact ⟨h, fun q => by omega⟩
    · rename_i k
      split at h
      · rename_i ht
        rw [sm_lk_set_ne (fun q => hn q.symm)] at h
        by_cases hk : n = k
        · subst hk
          exact absurd (sm_lk_set_self h) (by simp)
        · rw [sm_lk_set_ne (fun q => hk q.symm)] at h
          exact ⟨h, fun q => hk (by omega)⟩
      · rename_i ht
        rw [sm_lk_set_ne (fun q => hn q.symm)] at h
        refine ⟨h, fun q => ?_⟩
        have e : n = k := by omega
        subst e
        rw [h, sm_two_cat q.2] at ht
        cases ht
theorem sm_has1 {ad : Nat → Nat} {ls : Array Slot} {nL i : Nat} {L : List (Option Value)} {v : Value} (h : lv_has ls nL ((i, sm_tr ad v) :: (sm_loc ad 0 L).filter (fun q => !(q.1 == i) && !(q.1 + 1 == i && q.2.category == 2)))) : lv_has ls nL (sm_loc ad 0 (sm_st1 L i v)) := by
  refine ⟨h.1, h.2.1, fun q hq => ?_⟩
  obtain ⟨n, u, h1, h2⟩ := sm_loc_mem.mp hq
  refine h.2.2 q ?_
  rw [Nat.zero_add] at h2
  subst h2
  rcases sm_st1_lk h1 with ⟨rfl, rfl⟩ | ⟨h3, h4, h5⟩
  · exact List.mem_cons_self
  · refine List.mem_cons_of_mem _ (List.mem_filter.mpr ⟨sm_loc_mem.mpr ⟨n, u, h4, by rw [Nat.zero_add]⟩, ?_⟩)
    simp only [sm_tr_cat]
    simp only [Bool.and_eq_true, Bool.not_eq_true', beq_eq_false_iff_ne, ne_eq, Bool.and_eq_false_iff]
    refine ⟨h3, ?_⟩
    by_cases h6 : n + 1 = i
    · exact Or.inr (fun q => h5 ⟨h6, q⟩)
    · exact Or.inl h6
theorem sm_has2 {ad : Nat → Nat} {ls : Array Slot} {nL i : Nat} {L : List (Option Value)} {v : Value} (h : lv_has ls nL ((i, sm_tr ad v) :: (sm_loc ad 0 L).filter (fun q => !(q.1 == i) && (!(q.1 == i + 1) && !(q.1 + 1 == i && q.2.category == 2))))) : lv_has ls nL (sm_loc ad 0 (sm_st2 L i v)) := by
  refine ⟨h.1, h.2.1, fun q hq => ?_⟩
  obtain ⟨n, u, h1, h2⟩ := sm_loc_mem.mp hq
  refine h.2.2 q ?_
  rw [Nat.zero_add] at h2
  subst h2
  unfold sm_st2 at h1
  by_cases hn : n = i + 1
  · subst hn
    exact absurd (sm_lk_set_self h1) (by simp)
  · rw [sm_lk_set_ne (fun q => hn q.symm)] at h1
    rcases sm_st1_lk h1 with ⟨rfl, rfl⟩ | ⟨h3, h4, h5⟩
    · exact List.mem_cons_self
    · refine List.mem_cons_of_mem _ (List.mem_filter.mpr ⟨sm_loc_mem.mpr ⟨n, u, h4, by rw [Nat.zero_add]⟩, ?_⟩)
      simp only [sm_tr_cat]
      simp only [Bool.and_eq_true, Bool.not_eq_true', beq_eq_false_iff_ne, ne_eq, Bool.and_eq_false_iff]
      refine ⟨h3, hn, ?_⟩
      by_cases h6 : n + 1 = i
      · exact Or.inr (fun q => h5 ⟨h6, q⟩)
      · exact Or.inl h6
/-- fewer locals known -/
def sm_mask : List Bool → List (Option Value) → List (Option Value)
  | [], _ => []
  | _, [] => []
  | true :: bs, o :: l => o :: sm_mask bs l
  | false :: bs, _ :: l => none :: sm_mask bs l
theorem sm_mask_lk : ∀ {bs : List Bool} {L : List (Option Value)} {i : Nat} {v : Value}, sm_lk (sm_mask bs L) i = some v → sm_lk L i = some v
  | [], L, i, v, h => by simp [sm_mask, sm_lk] at h
  | _ :: _, [], i, v, h => by simp [sm_mask, sm_lk] at h
  | true :: bs, o :: l, 0, v, h => h
  | true :: bs, o :: l, i + 1, v, h => sm_mask_lk (L := l) (bs := bs) h
  | false :: bs, o :: l, 0, v, h => by simp [sm_mask, sm_lk] at h
  | false :: bs, o :: l, i + 1, v, h => sm_mask_lk (L := l) (bs := bs) h
theorem sm_mask_has {ad : Nat → Nat} {ls : Array Slot} {nL : Nat} {bs : List Bool} {L : List (Option Value)} (h : lv_has ls nL (sm_loc ad 0 L)) : lv_has ls nL (sm_loc ad 0 (sm_mask bs L)) := by
  refine ⟨h.1, h.2.1, fun q hq => ?_⟩
  obtain ⟨n, u, h1, h2⟩ := sm_loc_mem.mp hq
  exact h.2.2 q (sm_loc_mem.mpr ⟨n, u, sm_mask_lk h1, h2⟩)
/-- the locals at a method's entry -/
def sm_ent : List Value → Nat → List (Option Value)
  | [], n => List.replicate n none
  | v :: vs, n => match sm_two (some v) with
    | true => some v :: none :: sm_ent vs (n - 2)
    | false => some v :: sm_ent vs (n - 1)
def sm_len : List Value → Nat
  | [] => 0
  | v :: vs => v.category + sm_len vs
theorem sm_loc_none (ad : Nat → Nat) : ∀ (n i : Nat), sm_loc ad i (List.replicate n none) = []
  | 0, _ => rfl
  | n + 1, i => by
    rw [List.replicate_succ, sm_loc]
    exact sm_loc_none ad n (i + 1)
theorem sm_two_f {v : Value} (h : sm_two (some v) = false) : v.category = 1 := by cases v <;> first | rfl | (simp [sm_two] at h)
theorem sm_two_t {v : Value} (h : sm_two (some v) = true) : v.category = 2 := by cases v <;> first | rfl | (simp [sm_two] at h)
theorem sm_ent_loc (ad : Nat → Nat) : ∀ (as : List Value) (n i : Nat), sm_loc ad i (sm_ent as n) = lv_args i (as.map (sm_tr ad))
  | [], n, i => sm_loc_none ad n i
  | v :: vs, n, i => by
    rw [sm_ent, List.map_cons, lv_args, sm_tr_cat]
    split
    · rename_i h
      rw [sm_two_t h, if_pos rfl, sm_loc, sm_loc]
      exact congrArg _ (sm_ent_loc ad vs (n - 2) (i + 2))
    · rename_i h
      rw [sm_two_f h, if_neg (by decide), sm_loc]
      exact congrArg _ (sm_ent_loc ad vs (n - 1) (i + 1))
theorem sm_len_sl (ad : Nat → Nat) : ∀ as : List Value, (lg_sl (as.map (sm_tr ad))).length = sm_len as
  | [] => rfl
  | v :: vs => by
    have ih := sm_len_sl ad vs
    unfold lg_sl at ih ⊢
    rw [List.map_cons, List.flatMap_cons, List.length_append, ih, sm_len, sm_tr_cat]
    rcases lv_cat v with h | h
    · rw [h, if_neg (by decide)]; rfl
    · rw [h, if_pos rfl]; rfl
/-! contracts -/
def sm_nest : Cond → Bool
  | .fieldLinkNest .. => true
  | .methodLinkNest .. => true
  | _ => false
def sm_good : List Cond := lw_tbl.filter goodWord
def sm_ws (M : sm_MI) : List Cond := .code M.1 M.2.1 M.2.2.1 M.2.2.2.1 :: sm_good
def sm_rm (k : Nat) : Room := { frames := k, cells := 0, slots := 0, locals := 40 * k }
def sm_kl (j : Nat) : Int32 := match j with
  | 0 => 118
  | 1 => 112
  | 2 => 115
  | 3 => 110
  | 4 => 109
  | _ => 99
def sm_ST (base t : Nat) (U : State) : Prop := va_Z "HerOrders" "KIND_LETTERS" "[I" (.ref t) (fun q => base ≤ q) U U.heap ∧ va_T .int t 6 (fun j => .int (sm_kl j)) (fun q => base ≤ q) U U.heap
def sm_SX (base t : Nat) (E : Nat × (Nat → Int32)) (U : State) : Prop := va_X t E.1 E.2 U U.heap ∧ t < U.heap.size ∧ ¬ base ≤ t
def sm_Pc (E : Nat × (Nat → Int32)) (base : Nat) (D : va_G) (ad : Nat → Nat) (ca : Nat → ClassId) (w : sm_Mem) (as : List Value) : Array Value → State → Prop := va_Pc (as.map (sm_tr ad)) (fun U => base ≤ U.heap.size ∧ va_P D vwCl (sm_conc ad ca w) U.heap ∧ va_K D vwCl (sm_tys ca) U ∧ (∀ w1, va_D (fun q => base ≤ q) (sm_conc ad ca w1)) ∧ (∀ z ∈ lw_tbl, sm_nest z = true → va_Nw z U) ∧ sm_ST base (ad 998) U ∧ sm_SX base (ad 999) E U)
def sm_B (D : va_G) (ad : Nat → Nat) (ca : Nat → ClassId) (w : sm_Mem) : Unit → State → Prop := fun _ t => va_P D vwCl (sm_conc ad ca w) t.heap
def sm_Q (base : Nat) (D : va_G) (ad : Nat → Nat) (ca : Nat → ClassId) (v : Value) (w : sm_Mem) : Array Value → State → Outcome → State → Prop := match v with
  | .int x => va_Qi (fun r (_ : Unit) => r = x) (sm_B D ad ca w) (fun q => base ≤ q)
  | .long x => va_Ql (fun r (_ : Unit) => r = x) (sm_B D ad ca w) (fun q => base ≤ q)
  | .null => va_Qv (fun (_ : Unit) => True) (sm_B D ad ca w) (fun q => base ≤ q)
  | _ => fun _ _ _ _ => False
def sm_MC (E : Nat × (Nat → Int32)) (M : sm_MI) (as : List Value) (w : sm_Mem) (o : sm_R) : Prop := ∀ (v : Value) (w1 : sm_Mem), o = some (v, w1) → ∀ (l : Launch) (base : Nat) (D : va_G) (ad : Nat → Nat) (ca : Nat → ClassId), Met l M.1 (sm_ws M) (sm_rm M.2.2.2.2) (sm_Pc E base D ad ca w as) (sm_Q base D ad ca v w1) 0 0 (fun q => base ≤ q)
/-- what holds all through a method's run: the machine, its code, the tables, the world's addresses, the room, what a return comes to -/
def sm_OK (p : Program) (l : Launch) (e : Env) (R : Room) (s : State) (m : MethodId) (args : Array Value) (below : List Frame) (meth : Method) (c : Code) (base : Nat) (D : va_G) (ad : Nat → Nat) (ca : Nat → ClassId) (cells slots : Nat) (Q : State → Prop) (E : Nat × (Nat → Int32)) (M : sm_MI) (v : Value) (w1 : sm_Mem) : Prop :=
  p.tables.exec = Jvm.exec ∧ c.code = M.2.1 ∧ c.maxLocals = M.2.2.1 ∧ s.vm.findClass M.1.cls = some m.cls ∧ (∀ z ∈ sm_good, z.before args s = true) ∧ (∀ z ∈ lw_tbl, sm_nest z = true → va_Nw z s) ∧
  va_K D vwCl (sm_tys ca) s ∧ (∀ w, va_D (fun q => base ≤ q) (sm_conc ad ca w)) ∧ base ≤ s.heap.size ∧ (M.2.2.2.2 ≤ R.frames ∧ 40 * M.2.2.2.2 ≤ R.locals ∧ cells ≤ R.cells ∧ slots ≤ R.slots) ∧ sm_ST base (ad 998) s ∧
  sm_SX base (ad 999) E s ∧
  (∀ x : Int32, v = .int x → (M.2.2.2.1 = some .int ∨ (M.2.2.2.1 = some .boolean ∧ (x = 0 ∨ x = 1))) → ∀ (H : Heap) (locs : List Loc) (ls : Array Slot) (pc : Nat), decode M.2.1 pc = .ok (.ireturn, 1) → va_P D vwCl (sm_conc ad ca w1) H → va_S (fun q => base ≤ q) s.heap H locs → W p l e R s m args below meth c H locs cells slots Q (F0 m pc ls [.int x])) ∧
  (∀ x : Int64, v = .long x → M.2.2.2.1 = some .long → ∀ (H : Heap) (locs : List Loc) (ls : Array Slot) (pc : Nat), decode M.2.1 pc = .ok (.lreturn, 1) → va_P D vwCl (sm_conc ad ca w1) H → va_S (fun q => base ≤ q) s.heap H locs → W p l e R s m args below meth c H locs cells slots Q (F0 m pc ls [.long x])) ∧
  (v = .null → M.2.2.2.1 = none → ∀ (H : Heap) (locs : List Loc) (ls : Array Slot) (pc : Nat), decode M.2.1 pc = .ok (.return_, 1) → va_P D vwCl (sm_conc ad ca w1) H → va_S (fun q => base ≤ q) s.heap H locs → W p l e R s m args below meth c H locs cells slots Q (F0 m pc ls []))
def sm_Sim (E : Nat × (Nat → Int32)) (M : sm_MI) (pc : Nat) (L : List (Option Value)) (st : List Value) (w : sm_Mem) (o : sm_R) : Prop :=
  ∀ (v : Value) (w1 : sm_Mem), o = some (v, w1) → ∀ (p : Program) (l : Launch) (e : Env) (R : Room) (s : State) (m : MethodId) (args : Array Value) (below : List Frame) (meth : Method) (c : Code) (base : Nat) (D : va_G) (ad : Nat → Nat) (ca : Nat → ClassId) (cells slots : Nat) (Q : State → Prop), sm_OK p l e R s m args below meth c base D ad ca cells slots Q E M v w1 →
    ∀ (H : Heap) (locs : List Loc) (ls : Array Slot), va_P D vwCl (sm_conc ad ca w) H → va_S (fun q => base ≤ q) s.heap H locs → lv_has ls M.2.2.1 (sm_loc ad 0 L) → W p l e R s m args below meth c H locs cells slots Q (F0 m pc ls (st.map (sm_tr ad)))
theorem sm_blind {E : Nat × (Nat → Int32)} {base : Nat} {D : va_G} {ad : Nat → Nat} {ca : Nat → ClassId} {w : sm_Mem} {as : List Value} (hon : ∀ z, sm_nest z = true → z.onTables = true) : FrameBlind (sm_Pc E base D ad ca w as) := by
  intro a U g mk h
  obtain ⟨h1, h2, h3, h4, h5, h6, h7, h8⟩ := h
  refine ⟨h1, h2, h3, va_K.moved (u := U) (U := U.calling g mk a) (Vm.Alike.refl U.vm) h4, h5, fun z hz hn => va_Nw.same (hon z hn) (rfl : U.vm = (U.calling g mk a).vm) (h6 z hz hn), ⟨va_Z.moved (u := U) (U := U.calling g mk a) (Vm.Alike.refl U.vm) h7.1, va_T.moved (u := U) (U := U.calling g mk a) (Vm.Alike.refl U.vm) h7.2⟩, va_X.moved (u := U) (U := U.calling g mk a) (Vm.Alike.refl U.vm) h8.1, h8.2⟩
theorem sm_nest_on : ∀ z, sm_nest z = true → z.onTables = true := by
  intro z h
  cases z <;> first | rfl | (simp [sm_nest] at h)
set_option maxHeartbeats 4000000 in
/-- a contract out of a walk -/
theorem sm_MC_of {M : sm_MI} {as : List Value} {w : sm_Mem} {o : sm_R} {L0 : List (Option Value)} (E : Nat × (Nat → Int32)) (hy : plainName M.1.cls = true) (hL : sm_ent as (M.2.2.1) = L0) (hlen : sm_len as ≤ M.2.2.1) (h : sm_Sim E M 0 L0 [] w o) : sm_MC E M as w o := by
  intro v w1 ho l base D ad ca
  refine Met.ofW (cc := M.2.1) (maxL := M.2.2.1) (ret := M.2.2.2.1) hy rfl ?_
  intro p e s m args below meth c s₁ B hml hv
  obtain ⟨rfl, hbase, hP, hK, hD, hZ, hST, hSX⟩ := hv
  have hx := B.exec
  have hb := B.bytes
  have hr := B.returns
  have hts := atoms_spec (ws := sm_ws M) B.pre
  have hown : s.vm.findClass M.1.cls = some m.cls := findClass_of_methodNamed B.named
  have hlocks := B.notSynchronized
  have hl := lv_entry (as.map (sm_tr ad)) (n := M.2.2.1) (by rw [sm_len_sl]; exact hlen)
  rw [lg_entry_eq]
  generalize (lg_sl (as.map (sm_tr ad)) ++ List.replicate (M.2.2.1 - (lg_sl (as.map (sm_tr ad))).length) Slot.unset).toArray = ls at hl ⊢
  rw [← sm_ent_loc ad as M.2.2.1 0, hL] at hl
  refine h v w1 ho p l e _ s m _ below meth c base D ad ca 0 0 _ ⟨hx, hb, hml, hown, fun z hz => hts z (List.mem_cons_of_mem _ hz), hZ, hK, hD, hbase, ⟨Nat.le_refl _, Nat.le_refl _, Nat.le_refl _, Nat.le_refl _⟩, hST, hSX, ?_, ?_, ?_⟩ s.heap [] ls hP va_S.rf hl
  · intro x hvx hret H locs ls2 pc hdg hP2 hS2
    subst hvx
    have hq : ∀ t : State, t.heap = H → s.WarmedH t.vm → sm_Q base D ad ca (.int x) w1 (as.map (sm_tr ad)).toArray s (.returned (some (.int x))) t := fun t ht _ => ⟨⟨x, (), rfl, rfl, by show va_P _ _ _ t.heap; rw [ht]; exact hP2⟩, hS2.F ht⟩
    rcases hret with hret | ⟨hret, hx01⟩
    · exact W.iret hx hb (hr.trans hret) hq hS2.2.2 hdg (hlocks := hlocks)
    · refine W.zret (ty := .boolean) hx hb (hr.trans hret) ?_ hq hS2.2.2 hdg (hlocks := hlocks)
      rcases hx01 with rfl | rfl
      · exact narrow_b0
      · exact narrow_b1
  · intro x hvx hret H locs ls2 pc hdg hP2 hS2
    subst hvx
    exact W.lret hx hb (hr.trans hret) (fun t ht _ => ⟨⟨x, (), rfl, rfl, by show va_P _ _ _ t.heap; rw [ht]; exact hP2⟩, hS2.F ht⟩) hS2.2.2 hdg (hlocks := hlocks)
  · intro hvx hret H locs ls2 pc hdg hP2 hS2
    subst hvx
    exact W.vret hx hb (hr.trans hret) (fun t ht _ => ⟨⟨(), rfl, trivial, by show va_P _ _ _ t.heap; rw [ht]; exact hP2⟩, hS2.F ht⟩) hS2.2.2 hdg (hlocks := hlocks)
