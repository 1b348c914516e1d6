/-! rows: an opcode each -/
def sm_D (cc : ByteArray) (pc n pc1 : Nat) (i : Instr) : Prop := decode cc pc = .ok (i, n) ∧ pc1 = pc + n
def sm_let {α : Type} (a : α) (f : α → sm_R) : sm_R := f a
def sm_rd (w : sm_Mem) (k n : Nat) (i : Int32) : Option Int32 := if i < 0 ∨ n ≤ i.toNatClampNeg then none else some (w.1 k i.toNatClampNeg)
def sm_wr (w : sm_Mem) (k n : Nat) (i x : Int32) : Option sm_Mem := if i < 0 ∨ n ≤ i.toNatClampNeg then none else some (sm_wI w k i.toNatClampNeg x)
def sm_rds (w : sm_Mem) (k : Nat) (i : Int32) : Option Int32 := match sm_shape[k]? with
  | some (.inr (.inl n)) => sm_rd w k n i
  | _ => none
def sm_wrs (w : sm_Mem) (k : Nat) (i x : Int32) : Option sm_Mem := match sm_shape[k]? with
  | some (.inr (.inl n)) => sm_wr w k n i x
  | _ => none
/-- is it an object of that class, the field of that kind: what the field's row holds -/
def sm_fk (k ci j kd : Nat) : Option Nat := match sm_shape[k]? with
  | some (.inl (cj, fs)) => if cj = ci then (match fs[j]? with
    | some (kf, c) => if kf = kd then some c else none
    | none => none) else none
  | _ => none
def sm_rr (k : Nat) (i : Int32) : Option Nat := match sm_shape[k]? with
  | some (.inr (.inr (t, ids))) => if i < 0 ∨ ids.length ≤ i.toNatClampNeg then none else if t = 1 ∨ t = 2 then ids[i.toNatClampNeg]? else none
  | _ => none
def sm_al (k : Nat) : Option Int32 := match sm_shape[k]? with
  | some (.inr (.inl n)) => some (Int32.ofNat n)
  | some (.inr (.inr (t, ids))) => if t = 1 ∨ t = 2 then some (Int32.ofNat ids.length) else none
  | _ => none
def sm_isO (k ci : Nat) : Bool := match sm_shape[k]? with
  | some (.inl (cj, _)) => cj == ci
  | _ => false
def sm_rc (k ci : Nat) (o : sm_R) : sm_R := if sm_isO k ci then o else none
def sm_cI (o : sm_R) (f : Int32 → sm_Mem → sm_R) : sm_R := match o with
  | some (.int x, w) => f x w
  | _ => none
def sm_cL (o : sm_R) (f : Int64 → sm_Mem → sm_R) : sm_R := match o with
  | some (.long x, w) => f x w
  | _ => none
def sm_cV (o : sm_R) (f : sm_Mem → sm_R) : sm_R := match o with
  | some (.null, w) => f w
  | _ => none
def sm_rz (x : Int32) (w : sm_Mem) : sm_R := if x = 0 ∨ x = 1 then some (.int x, w) else none
def sm_kd (i : Int32) : Option Int32 := if i < 0 ∨ 6 ≤ i.toNatClampNeg then none else some (sm_kl i.toNatClampNeg)
def sm_sc (E : Nat × (Nat → Int32)) (i : Int32) : Option Int32 := if i < 0 ∨ E.1 ≤ i.toNatClampNeg then none else some (E.2 i.toNatClampNeg)
theorem sm_fk_spec {k ci j kd c : Nat} (h : sm_fk k ci j kd = some c) : ∃ fs : List (Nat × Nat), sm_shape[k]? = some (.inl (ci, fs)) ∧ fs[j]? = some (kd, c) := by
  unfold sm_fk at h
  split at h
  · rename_i cj fs hs
    split at h
    · rename_i hc
      subst hc
      split at h
      · rename_i kf c2 hf
        split at h
        · rename_i hk
          subst hk
          cases h
          exact ⟨fs, hs, hf⟩
        · cases h
      · cases h
    · cases h
  · cases h
theorem sm_bind {α : Type} {a : Option α} {f : α → sm_R} {r : Value × sm_Mem} (h : Option.bind a f = some r) : ∃ x, a = some x ∧ f x = some r := by
  cases a with
  | none => cases h
  | some x => exact ⟨x, rfl, h⟩

theorem sm_iconst {E : Nat × (Nat → Int32)} {M : sm_MI} {pc pc1 : Nat} {L : List (Option Value)} {st : List Value} {w : sm_Mem} {o : sm_R} {z : Int} (x : Int32) (hd : sm_D M.2.1 pc 1 pc1 (.iconst z)) (hv : Int32.ofInt z = x) (k : sm_Sim E M pc1 L (.int x :: st) w o) : sm_Sim E M pc L st w o := by
  intro v w1 ho p l e R s m args below meth c base D ad ca cells slots Q hO H locs ls hP hS hl
  obtain ⟨hd, rfl⟩ := hd
  exact lv_iconst hO.1 hO.2.1 hd hv (k v w1 ho _ _ _ _ _ _ _ _ _ _ _ _ _ _ _ _ _ hO H locs _ hP hS hl)

theorem sm_bipush {E : Nat × (Nat → Int32)} {M : sm_MI} {pc pc1 : Nat} {L : List (Option Value)} {st : List Value} {w : sm_Mem} {o : sm_R} {z : Int} (x : Int32) (hd : sm_D M.2.1 pc 2 pc1 (.bipush z)) (hv : (Int8.ofInt z).toInt32 = x) (k : sm_Sim E M pc1 L (.int x :: st) w o) : sm_Sim E M pc L st w o := by
  intro v w1 ho p l e R s m args below meth c base D ad ca cells slots Q hO H locs ls hP hS hl
  obtain ⟨hd, rfl⟩ := hd
  exact lv_bipush hO.1 hO.2.1 hd hv (k v w1 ho _ _ _ _ _ _ _ _ _ _ _ _ _ _ _ _ _ hO H locs _ hP hS hl)

theorem sm_sipush {E : Nat × (Nat → Int32)} {M : sm_MI} {pc pc1 : Nat} {L : List (Option Value)} {st : List Value} {w : sm_Mem} {o : sm_R} {z : Int} (x : Int32) (hd : sm_D M.2.1 pc 3 pc1 (.sipush z)) (hv : (Int16.ofInt z).toInt32 = x) (k : sm_Sim E M pc1 L (.int x :: st) w o) : sm_Sim E M pc L st w o := by
  intro v w1 ho p l e R s m args below meth c base D ad ca cells slots Q hO H locs ls hP hS hl
  obtain ⟨hd, rfl⟩ := hd
  exact lv_sipush hO.1 hO.2.1 hd hv (k v w1 ho _ _ _ _ _ _ _ _ _ _ _ _ _ _ _ _ _ hO H locs _ hP hS hl)

theorem sm_lconst {E : Nat × (Nat → Int32)} {M : sm_MI} {pc pc1 : Nat} {L : List (Option Value)} {st : List Value} {w : sm_Mem} {o : sm_R} {z : Fin 2} (x : Int64) (hd : sm_D M.2.1 pc 1 pc1 (.lconst z)) (hv : Int64.ofNat (z : Nat) = x) (k : sm_Sim E M pc1 L (.long x :: st) w o) : sm_Sim E M pc L st w o := by
  intro v w1 ho p l e R s m args below meth c base D ad ca cells slots Q hO H locs ls hP hS hl
  obtain ⟨hd, rfl⟩ := hd
  exact lv_lconst hO.1 hO.2.1 hd hv (k v w1 ho _ _ _ _ _ _ _ _ _ _ _ _ _ _ _ _ _ hO H locs _ hP hS hl)
theorem sm_wgood {s : State} {args : Array Value} {z : Cond} (hts : ∀ z ∈ sm_good, z.before args s = true) (h : z ∈ lw_tbl) (hg : goodWord z = true) : z.before args s = true := hts z (List.mem_filter.mpr ⟨h, hg⟩)
theorem sm_ldcw {E : Nat × (Nat → Int32)} {M : sm_MI} {pc pc1 : Nat} {L : List (Option Value)} {st : List Value} {w : sm_Mem} {o : sm_R} {i : Nat} (x : Int32) (hd : sm_D M.2.1 pc 3 pc1 (.ldc_w i)) (hv : Cond.constant M.1.cls i x ∈ lw_tbl) (k : sm_Sim E M pc1 L (.int x :: st) w o) : sm_Sim E M pc L st w o := by
  intro v w1 ho p l e R s m args below meth c base D ad ca cells slots Q hO H locs ls hP hS hl
  obtain ⟨hd, rfl⟩ := hd
  exact lv_ldcw hO.1 hO.2.1 hO.2.2.2.1 (sm_wgood hO.2.2.2.2.1 hv rfl) hd (k v w1 ho _ _ _ _ _ _ _ _ _ _ _ _ _ _ _ _ _ hO H locs _ hP hS hl)
theorem sm_ldc {E : Nat × (Nat → Int32)} {M : sm_MI} {pc pc1 : Nat} {L : List (Option Value)} {st : List Value} {w : sm_Mem} {o : sm_R} {i : Nat} (x : Int32) (hd : sm_D M.2.1 pc 2 pc1 (.ldc i)) (hv : Cond.constant M.1.cls i x ∈ lw_tbl) (k : sm_Sim E M pc1 L (.int x :: st) w o) : sm_Sim E M pc L st w o := by
  intro v w1 ho p l e R s m args below meth c base D ad ca cells slots Q hO H locs ls hP hS hl
  obtain ⟨hd, rfl⟩ := hd
  exact lv_ldc hO.1 hO.2.1 hO.2.2.2.1 (sm_wgood hO.2.2.2.2.1 hv rfl) hd (k v w1 ho _ _ _ _ _ _ _ _ _ _ _ _ _ _ _ _ _ hO H locs _ hP hS hl)
theorem sm_ldc2 {E : Nat × (Nat → Int32)} {M : sm_MI} {pc pc1 : Nat} {L : List (Option Value)} {st : List Value} {w : sm_Mem} {o : sm_R} {i : Nat} (x : Int64) (hd : sm_D M.2.1 pc 3 pc1 (.ldc2_w i)) (hv : Cond.constantLong M.1.cls i x ∈ lw_tbl) (k : sm_Sim E M pc1 L (.long x :: st) w o) : sm_Sim E M pc L st w o := by
  intro v w1 ho p l e R s m args below meth c base D ad ca cells slots Q hO H locs ls hP hS hl
  obtain ⟨hd, rfl⟩ := hd
  exact lv_ldc2 hO.1 hO.2.1 hO.2.2.2.1 (sm_wgood hO.2.2.2.2.1 hv rfl) hd (k v w1 ho _ _ _ _ _ _ _ _ _ _ _ _ _ _ _ _ _ hO H locs _ hP hS hl)

theorem sm_iload_n {E : Nat × (Nat → Int32)} {M : sm_MI} {pc pc1 : Nat} {L : List (Option Value)} {st : List Value} {w : sm_Mem} {o : sm_R} {z : Fin 4} {x : Int32} (hd : sm_D M.2.1 pc 1 pc1 (.iload_n z)) (hx : sm_lk L z = some (.int x)) (k : sm_Sim E M pc1 L (.int x :: st) w o) : sm_Sim E M pc L st w o := by
  intro v w1 ho p l e R s m args below meth c base D ad ca cells slots Q hO H locs ls hP hS hl
  obtain ⟨hd, rfl⟩ := hd
  exact lv_iload_n hO.1 hO.2.1 hd rfl (sm_at hl hx) (k v w1 ho _ _ _ _ _ _ _ _ _ _ _ _ _ _ _ _ _ hO H locs _ hP hS hl)
theorem sm_iload {E : Nat × (Nat → Int32)} {M : sm_MI} {pc pc1 : Nat} {L : List (Option Value)} {st : List Value} {w : sm_Mem} {o : sm_R} {i : Nat} {x : Int32} (hd : sm_D M.2.1 pc 2 pc1 (.iload i)) (hx : sm_lk L i = some (.int x)) (k : sm_Sim E M pc1 L (.int x :: st) w o) : sm_Sim E M pc L st w o := by
  intro v w1 ho p l e R s m args below meth c base D ad ca cells slots Q hO H locs ls hP hS hl
  obtain ⟨hd, rfl⟩ := hd
  exact lv_iload hO.1 hO.2.1 hd (sm_at hl hx) (k v w1 ho _ _ _ _ _ _ _ _ _ _ _ _ _ _ _ _ _ hO H locs _ hP hS hl)

theorem sm_istore_n {E : Nat × (Nat → Int32)} {M : sm_MI} {pc pc1 : Nat} {L : List (Option Value)} {st : List Value} {w : sm_Mem} {o : sm_R} {z : Fin 4} {x : Int32} (L1 : List (Option Value)) (hd : sm_D M.2.1 pc 1 pc1 (.istore_n z)) (hn : Nat.ble ((z : Nat) + 1) M.2.2.1 = true) (hL : sm_st1 L z (.int x) = L1) (k : sm_Sim E M pc1 L1 st w o) : sm_Sim E M pc L (.int x :: st) w o := by
  intro v w1 ho p l e R s m args below meth c base D ad ca cells slots Q hO H locs ls hP hS hl
  obtain ⟨hd, rfl⟩ := hd
  subst hL
  exact lv_istore_n hO.1 hO.2.1 hd rfl hl (Nat.le_of_ble_eq_true hn) rfl (fun ls1 h1 => k v w1 ho _ _ _ _ _ _ _ _ _ _ _ _ _ _ _ _ _ hO H locs _ hP hS (sm_has1 (v := .int x) h1))
theorem sm_istore {E : Nat × (Nat → Int32)} {M : sm_MI} {pc pc1 : Nat} {L : List (Option Value)} {st : List Value} {w : sm_Mem} {o : sm_R} {i : Nat} {x : Int32} (L1 : List (Option Value)) (hd : sm_D M.2.1 pc 2 pc1 (.istore i)) (hn : Nat.ble (i + 1) M.2.2.1 = true) (hL : sm_st1 L i (.int x) = L1) (k : sm_Sim E M pc1 L1 st w o) : sm_Sim E M pc L (.int x :: st) w o := by
  intro v w1 ho p l e R s m args below meth c base D ad ca cells slots Q hO H locs ls hP hS hl
  obtain ⟨hd, rfl⟩ := hd
  subst hL
  exact lv_istore hO.1 hO.2.1 hd hl (Nat.le_of_ble_eq_true hn) rfl (fun ls1 h1 => k v w1 ho _ _ _ _ _ _ _ _ _ _ _ _ _ _ _ _ _ hO H locs _ hP hS (sm_has1 (v := .int x) h1))

theorem sm_lload_n {E : Nat × (Nat → Int32)} {M : sm_MI} {pc pc1 : Nat} {L : List (Option Value)} {st : List Value} {w : sm_Mem} {o : sm_R} {z : Fin 4} {x : Int64} (hd : sm_D M.2.1 pc 1 pc1 (.lload_n z)) (hx : sm_lk L z = some (.long x)) (k : sm_Sim E M pc1 L (.long x :: st) w o) : sm_Sim E M pc L st w o := by
  intro v w1 ho p l e R s m args below meth c base D ad ca cells slots Q hO H locs ls hP hS hl
  obtain ⟨hd, rfl⟩ := hd
  exact lv_lload_n hO.1 hO.2.1 hd rfl (sm_at hl hx) (k v w1 ho _ _ _ _ _ _ _ _ _ _ _ _ _ _ _ _ _ hO H locs _ hP hS hl)
theorem sm_lload {E : Nat × (Nat → Int32)} {M : sm_MI} {pc pc1 : Nat} {L : List (Option Value)} {st : List Value} {w : sm_Mem} {o : sm_R} {i : Nat} {x : Int64} (hd : sm_D M.2.1 pc 2 pc1 (.lload i)) (hx : sm_lk L i = some (.long x)) (k : sm_Sim E M pc1 L (.long x :: st) w o) : sm_Sim E M pc L st w o := by
  intro v w1 ho p l e R s m args below meth c base D ad ca cells slots Q hO H locs ls hP hS hl
  obtain ⟨hd, rfl⟩ := hd
  exact lv_lload hO.1 hO.2.1 hd (sm_at hl hx) (k v w1 ho _ _ _ _ _ _ _ _ _ _ _ _ _ _ _ _ _ hO H locs _ hP hS hl)

theorem sm_lstore_n {E : Nat × (Nat → Int32)} {M : sm_MI} {pc pc1 : Nat} {L : List (Option Value)} {st : List Value} {w : sm_Mem} {o : sm_R} {z : Fin 4} {x : Int64} (L1 : List (Option Value)) (hd : sm_D M.2.1 pc 1 pc1 (.lstore_n z)) (hn : Nat.ble ((z : Nat) + 2) M.2.2.1 = true) (hL : sm_st2 L z (.long x) = L1) (k : sm_Sim E M pc1 L1 st w o) : sm_Sim E M pc L (.long x :: st) w o := by
  intro v w1 ho p l e R s m args below meth c base D ad ca cells slots Q hO H locs ls hP hS hl
  obtain ⟨hd, rfl⟩ := hd
  subst hL
  exact lv_lstore_n hO.1 hO.2.1 hd rfl hl (Nat.le_of_ble_eq_true hn) rfl (fun ls1 h1 => k v w1 ho _ _ _ _ _ _ _ _ _ _ _ _ _ _ _ _ _ hO H locs _ hP hS (sm_has2 (v := .long x) h1))
theorem sm_lstore {E : Nat × (Nat → Int32)} {M : sm_MI} {pc pc1 : Nat} {L : List (Option Value)} {st : List Value} {w : sm_Mem} {o : sm_R} {i : Nat} {x : Int64} (L1 : List (Option Value)) (hd : sm_D M.2.1 pc 2 pc1 (.lstore i)) (hn : Nat.ble (i + 2) M.2.2.1 = true) (hL : sm_st2 L i (.long x) = L1) (k : sm_Sim E M pc1 L1 st w o) : sm_Sim E M pc L (.long x :: st) w o := by
  intro v w1 ho p l e R s m args below meth c base D ad ca cells slots Q hO H locs ls hP hS hl
  obtain ⟨hd, rfl⟩ := hd
  subst hL
  exact lv_lstore hO.1 hO.2.1 hd hl (Nat.le_of_ble_eq_true hn) rfl (fun ls1 h1 => k v w1 ho _ _ _ _ _ _ _ _ _ _ _ _ _ _ _ _ _ hO H locs _ hP hS (sm_has2 (v := .long x) h1))

theorem sm_aload_n {E : Nat × (Nat → Int32)} {M : sm_MI} {pc pc1 : Nat} {L : List (Option Value)} {st : List Value} {w : sm_Mem} {o : sm_R} {z : Fin 4} {x : Nat} (hd : sm_D M.2.1 pc 1 pc1 (.aload_n z)) (hx : sm_lk L z = some (.ref x)) (k : sm_Sim E M pc1 L (.ref x :: st) w o) : sm_Sim E M pc L st w o := by
  intro v w1 ho p l e R s m args below meth c base D ad ca cells slots Q hO H locs ls hP hS hl
  obtain ⟨hd, rfl⟩ := hd
  exact lv_aload_n hO.1 hO.2.1 hd rfl (sm_at hl hx) (k v w1 ho _ _ _ _ _ _ _ _ _ _ _ _ _ _ _ _ _ hO H locs _ hP hS hl)
theorem sm_aload {E : Nat × (Nat → Int32)} {M : sm_MI} {pc pc1 : Nat} {L : List (Option Value)} {st : List Value} {w : sm_Mem} {o : sm_R} {i : Nat} {x : Nat} (hd : sm_D M.2.1 pc 2 pc1 (.aload i)) (hx : sm_lk L i = some (.ref x)) (k : sm_Sim E M pc1 L (.ref x :: st) w o) : sm_Sim E M pc L st w o := by
  intro v w1 ho p l e R s m args below meth c base D ad ca cells slots Q hO H locs ls hP hS hl
  obtain ⟨hd, rfl⟩ := hd
  exact lv_aload hO.1 hO.2.1 hd (sm_at hl hx) (k v w1 ho _ _ _ _ _ _ _ _ _ _ _ _ _ _ _ _ _ hO H locs _ hP hS hl)

theorem sm_astore_n {E : Nat × (Nat → Int32)} {M : sm_MI} {pc pc1 : Nat} {L : List (Option Value)} {st : List Value} {w : sm_Mem} {o : sm_R} {z : Fin 4} {x : Nat} (L1 : List (Option Value)) (hd : sm_D M.2.1 pc 1 pc1 (.astore_n z)) (hn : Nat.ble ((z : Nat) + 1) M.2.2.1 = true) (hL : sm_st1 L z (.ref x) = L1) (k : sm_Sim E M pc1 L1 st w o) : sm_Sim E M pc L (.ref x :: st) w o := by
  intro v w1 ho p l e R s m args below meth c base D ad ca cells slots Q hO H locs ls hP hS hl
  obtain ⟨hd, rfl⟩ := hd
  subst hL
  exact lv_astore_n hO.1 hO.2.1 hd rfl hl (Nat.le_of_ble_eq_true hn) rfl (fun ls1 h1 => k v w1 ho _ _ _ _ _ _ _ _ _ _ _ _ _ _ _ _ _ hO H locs _ hP hS (sm_has1 (v := .ref x) h1))
theorem sm_astore {E : Nat × (Nat → Int32)} {M : sm_MI} {pc pc1 : Nat} {L : List (Option Value)} {st : List Value} {w : sm_Mem} {o : sm_R} {i : Nat} {x : Nat} (L1 : List (Option Value)) (hd : sm_D M.2.1 pc 2 pc1 (.astore i)) (hn : Nat.ble (i + 1) M.2.2.1 = true) (hL : sm_st1 L i (.ref x) = L1) (k : sm_Sim E M pc1 L1 st w o) : sm_Sim E M pc L (.ref x :: st) w o := by
  intro v w1 ho p l e R s m args below meth c base D ad ca cells slots Q hO H locs ls hP hS hl
  obtain ⟨hd, rfl⟩ := hd
  subst hL
  exact lv_astore hO.1 hO.2.1 hd hl (Nat.le_of_ble_eq_true hn) rfl (fun ls1 h1 => k v w1 ho _ _ _ _ _ _ _ _ _ _ _ _ _ _ _ _ _ hO H locs _ hP hS (sm_has1 (v := .ref x) h1))

theorem sm_iinc {E : Nat × (Nat → Int32)} {M : sm_MI} {pc pc1 : Nat} {L : List (Option Value)} {st : List Value} {w : sm_Mem} {o : sm_R} {i : Nat} {z : Int} {x : Int32} (y : Int32) (L1 : List (Option Value)) (hd : sm_D M.2.1 pc 3 pc1 (.iinc i z)) (hx : sm_lk L i = some (.int x)) (hy : x + Int32.ofInt z = y) (hn : Nat.ble (i + 1) M.2.2.1 = true) (hL : sm_st1 L i (.int y) = L1) (k : sm_Sim E M pc1 L1 st w o) : sm_Sim E M pc L st w o := by
  intro v w1 ho p l e R s m args below meth c base D ad ca cells slots Q hO H locs ls hP hS hl
  obtain ⟨hd, rfl⟩ := hd
  subst hL
  obtain ⟨q, hq⟩ := List.getElem?_of_mem (sm_loc_mem (ad := ad) (i := 0).mpr ⟨i, _, hx, rfl⟩)
  rw [Nat.zero_add] at hq
  exact lv_iinc hO.1 hO.2.1 hd hl hq hy (Nat.le_of_ble_eq_true hn) rfl (fun ls1 h1 => k v w1 ho _ _ _ _ _ _ _ _ _ _ _ _ _ _ _ _ _ hO H locs _ hP hS (sm_has1 (v := .int y) h1))
theorem sm_msk {E : Nat × (Nat → Int32)} {M : sm_MI} {pc : Nat} {L : List (Option Value)} {st : List Value} {w : sm_Mem} {o : sm_R} (bs : List Bool) (L1 : List (Option Value)) (hL : sm_mask bs L = L1) (k : sm_Sim E M pc L1 st w o) : sm_Sim E M pc L st w o := by
  intro v w1 ho p l e R s m args below meth c base D ad ca cells slots Q hO H locs ls hP hS hl
  subst hL
  exact k v w1 ho _ _ _ _ _ _ _ _ _ _ _ _ _ _ _ _ _ hO H locs _ hP hS (sm_mask_has hl)

theorem sm_iadd {E : Nat × (Nat → Int32)} {M : sm_MI} {pc pc1 : Nat} {L : List (Option Value)} {st : List Value} {w : sm_Mem} {o : sm_R} {x y : Int32} (hd : sm_D M.2.1 pc 1 pc1 .iadd) (k : sm_Sim E M pc1 L (.int (x + y) :: st) w o) : sm_Sim E M pc L (.int y :: .int x :: st) w o := by
  intro v w1 ho p l e R s m args below meth c base D ad ca cells slots Q hO H locs ls hP hS hl
  obtain ⟨hd, rfl⟩ := hd
  exact lv_iadd hO.1 hO.2.1 hd (k v w1 ho _ _ _ _ _ _ _ _ _ _ _ _ _ _ _ _ _ hO H locs _ hP hS hl)

theorem sm_isub {E : Nat × (Nat → Int32)} {M : sm_MI} {pc pc1 : Nat} {L : List (Option Value)} {st : List Value} {w : sm_Mem} {o : sm_R} {x y : Int32} (hd : sm_D M.2.1 pc 1 pc1 .isub) (k : sm_Sim E M pc1 L (.int (x - y) :: st) w o) : sm_Sim E M pc L (.int y :: .int x :: st) w o := by
  intro v w1 ho p l e R s m args below meth c base D ad ca cells slots Q hO H locs ls hP hS hl
  obtain ⟨hd, rfl⟩ := hd
  exact lv_isub hO.1 hO.2.1 hd (k v w1 ho _ _ _ _ _ _ _ _ _ _ _ _ _ _ _ _ _ hO H locs _ hP hS hl)

theorem sm_imul {E : Nat × (Nat → Int32)} {M : sm_MI} {pc pc1 : Nat} {L : List (Option Value)} {st : List Value} {w : sm_Mem} {o : sm_R} {x y : Int32} (hd : sm_D M.2.1 pc 1 pc1 .imul) (k : sm_Sim E M pc1 L (.int (x * y) :: st) w o) : sm_Sim E M pc L (.int y :: .int x :: st) w o := by
  intro v w1 ho p l e R s m args below meth c base D ad ca cells slots Q hO H locs ls hP hS hl
  obtain ⟨hd, rfl⟩ := hd
  exact lv_imul hO.1 hO.2.1 hd (k v w1 ho _ _ _ _ _ _ _ _ _ _ _ _ _ _ _ _ _ hO H locs _ hP hS hl)

theorem sm_iand {E : Nat × (Nat → Int32)} {M : sm_MI} {pc pc1 : Nat} {L : List (Option Value)} {st : List Value} {w : sm_Mem} {o : sm_R} {x y : Int32} (hd : sm_D M.2.1 pc 1 pc1 .iand) (k : sm_Sim E M pc1 L (.int (x &&& y) :: st) w o) : sm_Sim E M pc L (.int y :: .int x :: st) w o := by
  intro v w1 ho p l e R s m args below meth c base D ad ca cells slots Q hO H locs ls hP hS hl
  obtain ⟨hd, rfl⟩ := hd
  exact lv_iand hO.1 hO.2.1 hd (k v w1 ho _ _ _ _ _ _ _ _ _ _ _ _ _ _ _ _ _ hO H locs _ hP hS hl)

theorem sm_ior {E : Nat × (Nat → Int32)} {M : sm_MI} {pc pc1 : Nat} {L : List (Option Value)} {st : List Value} {w : sm_Mem} {o : sm_R} {x y : Int32} (hd : sm_D M.2.1 pc 1 pc1 .ior) (k : sm_Sim E M pc1 L (.int (x ||| y) :: st) w o) : sm_Sim E M pc L (.int y :: .int x :: st) w o := by
  intro v w1 ho p l e R s m args below meth c base D ad ca cells slots Q hO H locs ls hP hS hl
  obtain ⟨hd, rfl⟩ := hd
  exact lv_ior hO.1 hO.2.1 hd (k v w1 ho _ _ _ _ _ _ _ _ _ _ _ _ _ _ _ _ _ hO H locs _ hP hS hl)

theorem sm_ixor {E : Nat × (Nat → Int32)} {M : sm_MI} {pc pc1 : Nat} {L : List (Option Value)} {st : List Value} {w : sm_Mem} {o : sm_R} {x y : Int32} (hd : sm_D M.2.1 pc 1 pc1 .ixor) (k : sm_Sim E M pc1 L (.int (x ^^^ y) :: st) w o) : sm_Sim E M pc L (.int y :: .int x :: st) w o := by
  intro v w1 ho p l e R s m args below meth c base D ad ca cells slots Q hO H locs ls hP hS hl
  obtain ⟨hd, rfl⟩ := hd
  exact lv_ixor hO.1 hO.2.1 hd (k v w1 ho _ _ _ _ _ _ _ _ _ _ _ _ _ _ _ _ _ hO H locs _ hP hS hl)

theorem sm_ishl {E : Nat × (Nat → Int32)} {M : sm_MI} {pc pc1 : Nat} {L : List (Option Value)} {st : List Value} {w : sm_Mem} {o : sm_R} {x y : Int32} (hd : sm_D M.2.1 pc 1 pc1 .ishl) (k : sm_Sim E M pc1 L (.int (x <<< (y &&& 31)) :: st) w o) : sm_Sim E M pc L (.int y :: .int x :: st) w o := by
  intro v w1 ho p l e R s m args below meth c base D ad ca cells slots Q hO H locs ls hP hS hl
  obtain ⟨hd, rfl⟩ := hd
  exact lv_ishl hO.1 hO.2.1 hd (k v w1 ho _ _ _ _ _ _ _ _ _ _ _ _ _ _ _ _ _ hO H locs _ hP hS hl)

theorem sm_ishr {E : Nat × (Nat → Int32)} {M : sm_MI} {pc pc1 : Nat} {L : List (Option Value)} {st : List Value} {w : sm_Mem} {o : sm_R} {x y : Int32} (hd : sm_D M.2.1 pc 1 pc1 .ishr) (k : sm_Sim E M pc1 L (.int (x >>> (y &&& 31)) :: st) w o) : sm_Sim E M pc L (.int y :: .int x :: st) w o := by
  intro v w1 ho p l e R s m args below meth c base D ad ca cells slots Q hO H locs ls hP hS hl
  obtain ⟨hd, rfl⟩ := hd
  exact lv_ishr hO.1 hO.2.1 hd (k v w1 ho _ _ _ _ _ _ _ _ _ _ _ _ _ _ _ _ _ hO H locs _ hP hS hl)

theorem sm_iushr {E : Nat × (Nat → Int32)} {M : sm_MI} {pc pc1 : Nat} {L : List (Option Value)} {st : List Value} {w : sm_Mem} {o : sm_R} {x y : Int32} (hd : sm_D M.2.1 pc 1 pc1 .iushr) (k : sm_Sim E M pc1 L (.int ((x.toUInt32 >>> (y.toUInt32 &&& Int32.toUInt32 31)).toInt32) :: st) w o) : sm_Sim E M pc L (.int y :: .int x :: st) w o := by
  intro v w1 ho p l e R s m args below meth c base D ad ca cells slots Q hO H locs ls hP hS hl
  obtain ⟨hd, rfl⟩ := hd
  exact lv_iushr hO.1 hO.2.1 hd rfl (k v w1 ho _ _ _ _ _ _ _ _ _ _ _ _ _ _ _ _ _ hO H locs _ hP hS hl)

theorem sm_ineg {E : Nat × (Nat → Int32)} {M : sm_MI} {pc pc1 : Nat} {L : List (Option Value)} {st : List Value} {w : sm_Mem} {o : sm_R} {x : Int32} (hd : sm_D M.2.1 pc 1 pc1 .ineg) (k : sm_Sim E M pc1 L (.int (-x) :: st) w o) : sm_Sim E M pc L (.int x :: st) w o := by
  intro v w1 ho p l e R s m args below meth c base D ad ca cells slots Q hO H locs ls hP hS hl
  obtain ⟨hd, rfl⟩ := hd
  exact lv_ineg hO.1 hO.2.1 hd (k v w1 ho _ _ _ _ _ _ _ _ _ _ _ _ _ _ _ _ _ hO H locs _ hP hS hl)

theorem sm_ladd {E : Nat × (Nat → Int32)} {M : sm_MI} {pc pc1 : Nat} {L : List (Option Value)} {st : List Value} {w : sm_Mem} {o : sm_R} {x y : Int64} (hd : sm_D M.2.1 pc 1 pc1 .ladd) (k : sm_Sim E M pc1 L (.long (x + y) :: st) w o) : sm_Sim E M pc L (.long y :: .long x :: st) w o := by
  intro v w1 ho p l e R s m args below meth c base D ad ca cells slots Q hO H locs ls hP hS hl
  obtain ⟨hd, rfl⟩ := hd
  exact lv_ladd hO.1 hO.2.1 hd (k v w1 ho _ _ _ _ _ _ _ _ _ _ _ _ _ _ _ _ _ hO H locs _ hP hS hl)

theorem sm_lsub {E : Nat × (Nat → Int32)} {M : sm_MI} {pc pc1 : Nat} {L : List (Option Value)} {st : List Value} {w : sm_Mem} {o : sm_R} {x y : Int64} (hd : sm_D M.2.1 pc 1 pc1 .lsub) (k : sm_Sim E M pc1 L (.long (x - y) :: st) w o) : sm_Sim E M pc L (.long y :: .long x :: st) w o := by
  intro v w1 ho p l e R s m args below meth c base D ad ca cells slots Q hO H locs ls hP hS hl
  obtain ⟨hd, rfl⟩ := hd
  exact lv_lsub hO.1 hO.2.1 hd (k v w1 ho _ _ _ _ _ _ _ _ _ _ _ _ _ _ _ _ _ hO H locs _ hP hS hl)

theorem sm_lmul {E : Nat × (Nat → Int32)} {M : sm_MI} {pc pc1 : Nat} {L : List (Option Value)} {st : List Value} {w : sm_Mem} {o : sm_R} {x y : Int64} (hd : sm_D M.2.1 pc 1 pc1 .lmul) (k : sm_Sim E M pc1 L (.long (x * y) :: st) w o) : sm_Sim E M pc L (.long y :: .long x :: st) w o := by
  intro v w1 ho p l e R s m args below meth c base D ad ca cells slots Q hO H locs ls hP hS hl
  obtain ⟨hd, rfl⟩ := hd
  exact lv_lmul hO.1 hO.2.1 hd (k v w1 ho _ _ _ _ _ _ _ _ _ _ _ _ _ _ _ _ _ hO H locs _ hP hS hl)

theorem sm_lcmp {E : Nat × (Nat → Int32)} {M : sm_MI} {pc pc1 : Nat} {L : List (Option Value)} {st : List Value} {w : sm_Mem} {o : sm_R} {x y : Int64} (hd : sm_D M.2.1 pc 1 pc1 .lcmp) (k : sm_Sim E M pc1 L (.int (lg_cmp x y) :: st) w o) : sm_Sim E M pc L (.long y :: .long x :: st) w o := by
  intro v w1 ho p l e R s m args below meth c base D ad ca cells slots Q hO H locs ls hP hS hl
  obtain ⟨hd, rfl⟩ := hd
  exact W.lcmp hO.1 hO.2.1 hd (k v w1 ho _ _ _ _ _ _ _ _ _ _ _ _ _ _ _ _ _ hO H locs _ hP hS hl)

theorem sm_i2l {E : Nat × (Nat → Int32)} {M : sm_MI} {pc pc1 : Nat} {L : List (Option Value)} {st : List Value} {w : sm_Mem} {o : sm_R} {x : Int32} (hd : sm_D M.2.1 pc 1 pc1 .i2l) (k : sm_Sim E M pc1 L (.long x.toInt64 :: st) w o) : sm_Sim E M pc L (.int x :: st) w o := by
  intro v w1 ho p l e R s m args below meth c base D ad ca cells slots Q hO H locs ls hP hS hl
  obtain ⟨hd, rfl⟩ := hd
  exact lv_i2l hO.1 hO.2.1 hd rfl (k v w1 ho _ _ _ _ _ _ _ _ _ _ _ _ _ _ _ _ _ hO H locs _ hP hS hl)

theorem sm_l2i {E : Nat × (Nat → Int32)} {M : sm_MI} {pc pc1 : Nat} {L : List (Option Value)} {st : List Value} {w : sm_Mem} {o : sm_R} {x : Int64} (hd : sm_D M.2.1 pc 1 pc1 .l2i) (k : sm_Sim E M pc1 L (.int x.toInt32 :: st) w o) : sm_Sim E M pc L (.long x :: st) w o := by
  intro v w1 ho p l e R s m args below meth c base D ad ca cells slots Q hO H locs ls hP hS hl
  obtain ⟨hd, rfl⟩ := hd
  exact lv_l2i hO.1 hO.2.1 hd rfl (k v w1 ho _ _ _ _ _ _ _ _ _ _ _ _ _ _ _ _ _ hO H locs _ hP hS hl)

theorem sm_i2b {E : Nat × (Nat → Int32)} {M : sm_MI} {pc pc1 : Nat} {L : List (Option Value)} {st : List Value} {w : sm_Mem} {o : sm_R} {x : Int32} (hd : sm_D M.2.1 pc 1 pc1 .i2b) (k : sm_Sim E M pc1 L (.int x.toInt8.toInt32 :: st) w o) : sm_Sim E M pc L (.int x :: st) w o := by
  intro v w1 ho p l e R s m args below meth c base D ad ca cells slots Q hO H locs ls hP hS hl
  obtain ⟨hd, rfl⟩ := hd
  exact lv_i2b hO.1 hO.2.1 hd rfl (k v w1 ho _ _ _ _ _ _ _ _ _ _ _ _ _ _ _ _ _ hO H locs _ hP hS hl)

theorem sm_dupR {E : Nat × (Nat → Int32)} {M : sm_MI} {pc pc1 : Nat} {L : List (Option Value)} {st : List Value} {w : sm_Mem} {o : sm_R} {x : Nat} (hd : sm_D M.2.1 pc 1 pc1 .dup) (k : sm_Sim E M pc1 L (.ref x :: .ref x :: st) w o) : sm_Sim E M pc L (.ref x :: st) w o := by
  intro v w1 ho p l e R s m args below meth c base D ad ca cells slots Q hO H locs ls hP hS hl
  obtain ⟨hd, rfl⟩ := hd
  exact lv_dup hO.1 hO.2.1 hd rfl (k v w1 ho _ _ _ _ _ _ _ _ _ _ _ _ _ _ _ _ _ hO H locs _ hP hS hl)

theorem sm_dupI {E : Nat × (Nat → Int32)} {M : sm_MI} {pc pc1 : Nat} {L : List (Option Value)} {st : List Value} {w : sm_Mem} {o : sm_R} {x : Int32} (hd : sm_D M.2.1 pc 1 pc1 .dup) (k : sm_Sim E M pc1 L (.int x :: .int x :: st) w o) : sm_Sim E M pc L (.int x :: st) w o := by
  intro v w1 ho p l e R s m args below meth c base D ad ca cells slots Q hO H locs ls hP hS hl
  obtain ⟨hd, rfl⟩ := hd
  exact lv_dup hO.1 hO.2.1 hd rfl (k v w1 ho _ _ _ _ _ _ _ _ _ _ _ _ _ _ _ _ _ hO H locs _ hP hS hl)

theorem sm_dup2 {E : Nat × (Nat → Int32)} {M : sm_MI} {pc pc1 : Nat} {L : List (Option Value)} {st : List Value} {w : sm_Mem} {o : sm_R} {x : Int32} {y : Nat} (hd : sm_D M.2.1 pc 1 pc1 .dup2) (k : sm_Sim E M pc1 L (.int x :: .ref y :: .int x :: .ref y :: st) w o) : sm_Sim E M pc L (.int x :: .ref y :: st) w o := by
  intro v w1 ho p l e R s m args below meth c base D ad ca cells slots Q hO H locs ls hP hS hl
  obtain ⟨hd, rfl⟩ := hd
  exact lv_dup2_11 hO.1 hO.2.1 hd rfl rfl (k v w1 ho _ _ _ _ _ _ _ _ _ _ _ _ _ _ _ _ _ hO H locs _ hP hS hl)

theorem sm_pop {E : Nat × (Nat → Int32)} {M : sm_MI} {pc pc1 : Nat} {L : List (Option Value)} {st : List Value} {w : sm_Mem} {o : sm_R} {x : Int32} (hd : sm_D M.2.1 pc 1 pc1 .pop) (k : sm_Sim E M pc1 L (st) w o) : sm_Sim E M pc L (.int x :: st) w o := by
  intro v w1 ho p l e R s m args below meth c base D ad ca cells slots Q hO H locs ls hP hS hl
  obtain ⟨hd, rfl⟩ := hd
  exact lv_pop hO.1 hO.2.1 hd rfl (k v w1 ho _ _ _ _ _ _ _ _ _ _ _ _ _ _ _ _ _ hO H locs _ hP hS hl)

theorem sm_idiv {E : Nat × (Nat → Int32)} {M : sm_MI} {pc pc1 : Nat} {L : List (Option Value)} {st : List Value} {w : sm_Mem} {o : sm_R} {x y : Int32} (hd : sm_D M.2.1 pc 1 pc1 .idiv) (k : sm_Sim E M pc1 L (.int (x / y) :: st) w o) : sm_Sim E M pc L (.int y :: .int x :: st) w (if y = 0 then none else o) := by
  intro v w1 ho p l e R s m args below meth c base D ad ca cells slots Q hO H locs ls hP hS hl
  obtain ⟨hd, rfl⟩ := hd
  by_cases h0 : y = 0
  · rw [if_pos h0] at ho
    cases ho
  · rw [if_neg h0] at ho
    exact lv_idiv hO.1 hO.2.1 hd h0 (k v w1 ho _ _ _ _ _ _ _ _ _ _ _ _ _ _ _ _ _ hO H locs _ hP hS hl)

theorem sm_irem {E : Nat × (Nat → Int32)} {M : sm_MI} {pc pc1 : Nat} {L : List (Option Value)} {st : List Value} {w : sm_Mem} {o : sm_R} {x y : Int32} (hd : sm_D M.2.1 pc 1 pc1 .irem) (k : sm_Sim E M pc1 L (.int (x - x / y * y) :: st) w o) : sm_Sim E M pc L (.int y :: .int x :: st) w (if y = 0 then none else o) := by
  intro v w1 ho p l e R s m args below meth c base D ad ca cells slots Q hO H locs ls hP hS hl
  obtain ⟨hd, rfl⟩ := hd
  by_cases h0 : y = 0
  · rw [if_pos h0] at ho
    cases ho
  · rw [if_neg h0] at ho
    exact lv_irem hO.1 hO.2.1 hd h0 (k v w1 ho _ _ _ _ _ _ _ _ _ _ _ _ _ _ _ _ _ hO H locs _ hP hS hl)

theorem sm_ldiv {E : Nat × (Nat → Int32)} {M : sm_MI} {pc pc1 : Nat} {L : List (Option Value)} {st : List Value} {w : sm_Mem} {o : sm_R} {x y : Int64} (hd : sm_D M.2.1 pc 1 pc1 .ldiv) (k : sm_Sim E M pc1 L (.long (x / y) :: st) w o) : sm_Sim E M pc L (.long y :: .long x :: st) w (if y = 0 then none else o) := by
  intro v w1 ho p l e R s m args below meth c base D ad ca cells slots Q hO H locs ls hP hS hl
  obtain ⟨hd, rfl⟩ := hd
  by_cases h0 : y = 0
  · rw [if_pos h0] at ho
    cases ho
  · rw [if_neg h0] at ho
    exact lv_ldiv hO.1 hO.2.1 hd h0 (k v w1 ho _ _ _ _ _ _ _ _ _ _ _ _ _ _ _ _ _ hO H locs _ hP hS hl)

theorem sm_lrem {E : Nat × (Nat → Int32)} {M : sm_MI} {pc pc1 : Nat} {L : List (Option Value)} {st : List Value} {w : sm_Mem} {o : sm_R} {x y : Int64} (hd : sm_D M.2.1 pc 1 pc1 .lrem) (k : sm_Sim E M pc1 L (.long (x - x / y * y) :: st) w o) : sm_Sim E M pc L (.long y :: .long x :: st) w (if y = 0 then none else o) := by
  intro v w1 ho p l e R s m args below meth c base D ad ca cells slots Q hO H locs ls hP hS hl
  obtain ⟨hd, rfl⟩ := hd
  by_cases h0 : y = 0
  · rw [if_pos h0] at ho
    cases ho
  · rw [if_neg h0] at ho
    exact lv_lrem hO.1 hO.2.1 hd h0 (k v w1 ho _ _ _ _ _ _ _ _ _ _ _ _ _ _ _ _ _ hO H locs _ hP hS hl)

theorem sm_if_eq {E : Nat × (Nat → Int32)} {M : sm_MI} {pc pc1 : Nat} {L : List (Option Value)} {st : List Value} {w : sm_Mem} {o1 o2 : sm_R} {x : Int32} {off : Int} (tgt : Nat) (hd : sm_D M.2.1 pc 3 pc1 (.ifCond .eq off)) (ht : (pc : Int) + off = (tgt : Int)) (kt : sm_Sim E M tgt L st w o1) (kf : sm_Sim E M pc1 L st w o2) : sm_Sim E M pc L (.int x :: st) w (if x = 0 then o1 else o2) := by
  intro v w1 ho p l e R s m args below meth c base D ad ca cells slots Q hO H locs ls hP hS hl
  obtain ⟨hd, rfl⟩ := hd
  exact lv_if_eq hO.1 hO.2.1 hd ht (fun h => kt v w1 (by rw [if_pos h] at ho; exact ho) _ _ _ _ _ _ _ _ _ _ _ _ _ _ _ _ _ hO H locs _ hP hS hl) (fun h => kf v w1 (by rw [if_neg h] at ho; exact ho) _ _ _ _ _ _ _ _ _ _ _ _ _ _ _ _ _ hO H locs _ hP hS hl)

theorem sm_if_ne {E : Nat × (Nat → Int32)} {M : sm_MI} {pc pc1 : Nat} {L : List (Option Value)} {st : List Value} {w : sm_Mem} {o1 o2 : sm_R} {x : Int32} {off : Int} (tgt : Nat) (hd : sm_D M.2.1 pc 3 pc1 (.ifCond .ne off)) (ht : (pc : Int) + off = (tgt : Int)) (kf : sm_Sim E M pc1 L st w o1) (kt : sm_Sim E M tgt L st w o2) : sm_Sim E M pc L (.int x :: st) w (if x = 0 then o1 else o2) := by
  intro v w1 ho p l e R s m args below meth c base D ad ca cells slots Q hO H locs ls hP hS hl
  obtain ⟨hd, rfl⟩ := hd
  exact lv_if_ne hO.1 hO.2.1 hd ht (fun h => kt v w1 (by rw [if_neg h] at ho; exact ho) _ _ _ _ _ _ _ _ _ _ _ _ _ _ _ _ _ hO H locs _ hP hS hl) (fun h => kf v w1 (by rw [if_pos h] at ho; exact ho) _ _ _ _ _ _ _ _ _ _ _ _ _ _ _ _ _ hO H locs _ hP hS hl)

theorem sm_if_lt {E : Nat × (Nat → Int32)} {M : sm_MI} {pc pc1 : Nat} {L : List (Option Value)} {st : List Value} {w : sm_Mem} {o1 o2 : sm_R} {x : Int32} {off : Int} (tgt : Nat) (hd : sm_D M.2.1 pc 3 pc1 (.ifCond .lt off)) (ht : (pc : Int) + off = (tgt : Int)) (kt : sm_Sim E M tgt L st w o1) (kf : sm_Sim E M pc1 L st w o2) : sm_Sim E M pc L (.int x :: st) w (if x < 0 then o1 else o2) := by
  intro v w1 ho p l e R s m args below meth c base D ad ca cells slots Q hO H locs ls hP hS hl
  obtain ⟨hd, rfl⟩ := hd
  exact lv_if_lt hO.1 hO.2.1 hd ht (fun h => kt v w1 (by rw [if_pos h] at ho; exact ho) _ _ _ _ _ _ _ _ _ _ _ _ _ _ _ _ _ hO H locs _ hP hS hl) (fun h => kf v w1 (by rw [if_neg h] at ho; exact ho) _ _ _ _ _ _ _ _ _ _ _ _ _ _ _ _ _ hO H locs _ hP hS hl)

theorem sm_if_ge {E : Nat × (Nat → Int32)} {M : sm_MI} {pc pc1 : Nat} {L : List (Option Value)} {st : List Value} {w : sm_Mem} {o1 o2 : sm_R} {x : Int32} {off : Int} (tgt : Nat) (hd : sm_D M.2.1 pc 3 pc1 (.ifCond .ge off)) (ht : (pc : Int) + off = (tgt : Int)) (kt : sm_Sim E M tgt L st w o1) (kf : sm_Sim E M pc1 L st w o2) : sm_Sim E M pc L (.int x :: st) w (if 0 ≤ x then o1 else o2) := by
  intro v w1 ho p l e R s m args below meth c base D ad ca cells slots Q hO H locs ls hP hS hl
  obtain ⟨hd, rfl⟩ := hd
  exact lv_if_ge hO.1 hO.2.1 hd ht (fun h => kt v w1 (by rw [if_pos h] at ho; exact ho) _ _ _ _ _ _ _ _ _ _ _ _ _ _ _ _ _ hO H locs _ hP hS hl) (fun h => kf v w1 (by rw [if_neg h] at ho; exact ho) _ _ _ _ _ _ _ _ _ _ _ _ _ _ _ _ _ hO H locs _ hP hS hl)

theorem sm_if_gt {E : Nat × (Nat → Int32)} {M : sm_MI} {pc pc1 : Nat} {L : List (Option Value)} {st : List Value} {w : sm_Mem} {o1 o2 : sm_R} {x : Int32} {off : Int} (tgt : Nat) (hd : sm_D M.2.1 pc 3 pc1 (.ifCond .gt off)) (ht : (pc : Int) + off = (tgt : Int)) (kt : sm_Sim E M tgt L st w o1) (kf : sm_Sim E M pc1 L st w o2) : sm_Sim E M pc L (.int x :: st) w (if 0 < x then o1 else o2) := by
  intro v w1 ho p l e R s m args below meth c base D ad ca cells slots Q hO H locs ls hP hS hl
  obtain ⟨hd, rfl⟩ := hd
  exact lv_if_gt hO.1 hO.2.1 hd ht (fun h => kt v w1 (by rw [if_pos h] at ho; exact ho) _ _ _ _ _ _ _ _ _ _ _ _ _ _ _ _ _ hO H locs _ hP hS hl) (fun h => kf v w1 (by rw [if_neg h] at ho; exact ho) _ _ _ _ _ _ _ _ _ _ _ _ _ _ _ _ _ hO H locs _ hP hS hl)

theorem sm_if_le {E : Nat × (Nat → Int32)} {M : sm_MI} {pc pc1 : Nat} {L : List (Option Value)} {st : List Value} {w : sm_Mem} {o1 o2 : sm_R} {x : Int32} {off : Int} (tgt : Nat) (hd : sm_D M.2.1 pc 3 pc1 (.ifCond .le off)) (ht : (pc : Int) + off = (tgt : Int)) (kt : sm_Sim E M tgt L st w o1) (kf : sm_Sim E M pc1 L st w o2) : sm_Sim E M pc L (.int x :: st) w (if x ≤ 0 then o1 else o2) := by
  intro v w1 ho p l e R s m args below meth c base D ad ca cells slots Q hO H locs ls hP hS hl
  obtain ⟨hd, rfl⟩ := hd
  exact lv_if_le hO.1 hO.2.1 hd ht (fun h => kt v w1 (by rw [if_pos h] at ho; exact ho) _ _ _ _ _ _ _ _ _ _ _ _ _ _ _ _ _ hO H locs _ hP hS hl) (fun h => kf v w1 (by rw [if_neg h] at ho; exact ho) _ _ _ _ _ _ _ _ _ _ _ _ _ _ _ _ _ hO H locs _ hP hS hl)

theorem sm_icmp_eq {E : Nat × (Nat → Int32)} {M : sm_MI} {pc pc1 : Nat} {L : List (Option Value)} {st : List Value} {w : sm_Mem} {o1 o2 : sm_R} {x y : Int32} {off : Int} (tgt : Nat) (hd : sm_D M.2.1 pc 3 pc1 (.if_icmp .eq off)) (ht : (pc : Int) + off = (tgt : Int)) (kt : sm_Sim E M tgt L st w o1) (kf : sm_Sim E M pc1 L st w o2) : sm_Sim E M pc L (.int y :: .int x :: st) w (if x = y then o1 else o2) := by
  intro v w1 ho p l e R s m args below meth c base D ad ca cells slots Q hO H locs ls hP hS hl
  obtain ⟨hd, rfl⟩ := hd
  exact lv_icmp_eq hO.1 hO.2.1 hd ht (fun h => kt v w1 (by rw [if_pos h] at ho; exact ho) _ _ _ _ _ _ _ _ _ _ _ _ _ _ _ _ _ hO H locs _ hP hS hl) (fun h => kf v w1 (by rw [if_neg h] at ho; exact ho) _ _ _ _ _ _ _ _ _ _ _ _ _ _ _ _ _ hO H locs _ hP hS hl)

theorem sm_icmp_ne {E : Nat × (Nat → Int32)} {M : sm_MI} {pc pc1 : Nat} {L : List (Option Value)} {st : List Value} {w : sm_Mem} {o1 o2 : sm_R} {x y : Int32} {off : Int} (tgt : Nat) (hd : sm_D M.2.1 pc 3 pc1 (.if_icmp .ne off)) (ht : (pc : Int) + off = (tgt : Int)) (kf : sm_Sim E M pc1 L st w o1) (kt : sm_Sim E M tgt L st w o2) : sm_Sim E M pc L (.int y :: .int x :: st) w (if x = y then o1 else o2) := by
  intro v w1 ho p l e R s m args below meth c base D ad ca cells slots Q hO H locs ls hP hS hl
  obtain ⟨hd, rfl⟩ := hd
  exact lv_icmp_ne hO.1 hO.2.1 hd ht (fun h => kt v w1 (by rw [if_neg h] at ho; exact ho) _ _ _ _ _ _ _ _ _ _ _ _ _ _ _ _ _ hO H locs _ hP hS hl) (fun h => kf v w1 (by rw [if_pos h] at ho; exact ho) _ _ _ _ _ _ _ _ _ _ _ _ _ _ _ _ _ hO H locs _ hP hS hl)

theorem sm_icmp_lt {E : Nat × (Nat → Int32)} {M : sm_MI} {pc pc1 : Nat} {L : List (Option Value)} {st : List Value} {w : sm_Mem} {o1 o2 : sm_R} {x y : Int32} {off : Int} (tgt : Nat) (hd : sm_D M.2.1 pc 3 pc1 (.if_icmp .lt off)) (ht : (pc : Int) + off = (tgt : Int)) (kt : sm_Sim E M tgt L st w o1) (kf : sm_Sim E M pc1 L st w o2) : sm_Sim E M pc L (.int y :: .int x :: st) w (if x < y then o1 else o2) := by
  intro v w1 ho p l e R s m args below meth c base D ad ca cells slots Q hO H locs ls hP hS hl
  obtain ⟨hd, rfl⟩ := hd
  exact lv_icmp_lt hO.1 hO.2.1 hd ht (fun h => kt v w1 (by rw [if_pos h] at ho; exact ho) _ _ _ _ _ _ _ _ _ _ _ _ _ _ _ _ _ hO H locs _ hP hS hl) (fun h => kf v w1 (by rw [if_neg h] at ho; exact ho) _ _ _ _ _ _ _ _ _ _ _ _ _ _ _ _ _ hO H locs _ hP hS hl)

theorem sm_icmp_ge {E : Nat × (Nat → Int32)} {M : sm_MI} {pc pc1 : Nat} {L : List (Option Value)} {st : List Value} {w : sm_Mem} {o1 o2 : sm_R} {x y : Int32} {off : Int} (tgt : Nat) (hd : sm_D M.2.1 pc 3 pc1 (.if_icmp .ge off)) (ht : (pc : Int) + off = (tgt : Int)) (kt : sm_Sim E M tgt L st w o1) (kf : sm_Sim E M pc1 L st w o2) : sm_Sim E M pc L (.int y :: .int x :: st) w (if y ≤ x then o1 else o2) := by
  intro v w1 ho p l e R s m args below meth c base D ad ca cells slots Q hO H locs ls hP hS hl
  obtain ⟨hd, rfl⟩ := hd
  exact lv_icmp_ge hO.1 hO.2.1 hd ht (fun h => kt v w1 (by rw [if_pos h] at ho; exact ho) _ _ _ _ _ _ _ _ _ _ _ _ _ _ _ _ _ hO H locs _ hP hS hl) (fun h => kf v w1 (by rw [if_neg h] at ho; exact ho) _ _ _ _ _ _ _ _ _ _ _ _ _ _ _ _ _ hO H locs _ hP hS hl)

theorem sm_icmp_gt {E : Nat × (Nat → Int32)} {M : sm_MI} {pc pc1 : Nat} {L : List (Option Value)} {st : List Value} {w : sm_Mem} {o1 o2 : sm_R} {x y : Int32} {off : Int} (tgt : Nat) (hd : sm_D M.2.1 pc 3 pc1 (.if_icmp .gt off)) (ht : (pc : Int) + off = (tgt : Int)) (kt : sm_Sim E M tgt L st w o1) (kf : sm_Sim E M pc1 L st w o2) : sm_Sim E M pc L (.int y :: .int x :: st) w (if y < x then o1 else o2) := by
  intro v w1 ho p l e R s m args below meth c base D ad ca cells slots Q hO H locs ls hP hS hl
  obtain ⟨hd, rfl⟩ := hd
  exact lv_icmp_gt hO.1 hO.2.1 hd ht (fun h => kt v w1 (by rw [if_pos h] at ho; exact ho) _ _ _ _ _ _ _ _ _ _ _ _ _ _ _ _ _ hO H locs _ hP hS hl) (fun h => kf v w1 (by rw [if_neg h] at ho; exact ho) _ _ _ _ _ _ _ _ _ _ _ _ _ _ _ _ _ hO H locs _ hP hS hl)

theorem sm_icmp_le {E : Nat × (Nat → Int32)} {M : sm_MI} {pc pc1 : Nat} {L : List (Option Value)} {st : List Value} {w : sm_Mem} {o1 o2 : sm_R} {x y : Int32} {off : Int} (tgt : Nat) (hd : sm_D M.2.1 pc 3 pc1 (.if_icmp .le off)) (ht : (pc : Int) + off = (tgt : Int)) (kt : sm_Sim E M tgt L st w o1) (kf : sm_Sim E M pc1 L st w o2) : sm_Sim E M pc L (.int y :: .int x :: st) w (if x ≤ y then o1 else o2) := by
  intro v w1 ho p l e R s m args below meth c base D ad ca cells slots Q hO H locs ls hP hS hl
  obtain ⟨hd, rfl⟩ := hd
  exact lv_icmp_le hO.1 hO.2.1 hd ht (fun h => kt v w1 (by rw [if_pos h] at ho; exact ho) _ _ _ _ _ _ _ _ _ _ _ _ _ _ _ _ _ hO H locs _ hP hS hl) (fun h => kf v w1 (by rw [if_neg h] at ho; exact ho) _ _ _ _ _ _ _ _ _ _ _ _ _ _ _ _ _ hO H locs _ hP hS hl)

theorem sm_goto {E : Nat × (Nat → Int32)} {M : sm_MI} {pc pc1 : Nat} {L : List (Option Value)} {st : List Value} {w : sm_Mem} {o : sm_R} {off : Int} (tgt : Nat) (hd : sm_D M.2.1 pc 3 pc1 (.goto off)) (ht : (pc : Int) + off = (tgt : Int)) (k : sm_Sim E M tgt L st w o) : sm_Sim E M pc L st w o := by
  intro v w1 ho p l e R s m args below meth c base D ad ca cells slots Q hO H locs ls hP hS hl
  obtain ⟨hd, rfl⟩ := hd
  exact lv_goto hO.1 hO.2.1 hd ht (k v w1 ho _ _ _ _ _ _ _ _ _ _ _ _ _ _ _ _ _ hO H locs _ hP hS hl)
/-- a switch over lo .. lo + n - 1 (its numbers without a gap) -/
def sm_sw (x : Int32) (lo : Int) (os : List sm_R) (d : sm_R) : sm_R := if x.toInt < lo ∨ lo + os.length ≤ x.toInt then d else os.getD (x.toInt - lo).toNat d
def sm_swk (E : Nat × (Nat → Int32)) (M : sm_MI) (L : List (Option Value)) (st : List Value) (w : sm_Mem) : List Nat → List sm_R → Prop
  | [], [] => True
  | t :: ts, o :: os => sm_Sim E M t L st w o ∧ sm_swk E M L st w ts os
  | _, _ => False
theorem sm_swk_get {E : Nat × (Nat → Int32)} {M : sm_MI} {L : List (Option Value)} {st : List Value} {w : sm_Mem} : ∀ {ts : List Nat} {os : List sm_R}, sm_swk E M L st w ts os → ts.length = os.length ∧ ∀ (j t : Nat) (o : sm_R), ts[j]? = some t → os[j]? = some o → sm_Sim E M t L st w o
  | [], [], _ => ⟨rfl, fun j t o h _ => by simp at h⟩
  | t :: ts, o :: os, h => by
    obtain ⟨h1, h2⟩ := h
    obtain ⟨h3, h4⟩ := sm_swk_get h2
    refine ⟨by simp [h3], fun j t2 o2 e1 e2 => ?_⟩
    cases j with
    | zero =>
      simp at e1 e2
      subst e1
      subst e2
      exact h1
    | succ j =>
      simp at e1 e2
      exact h4 j t2 o2 e1 e2
  | [], _ :: _, h => h.elim
  | _ :: _, [], h => h.elim
theorem sm_table {E : Nat × (Nat → Int32)} {M : sm_MI} {pc pc1 : Nat} {L : List (Option Value)} {st : List Value} {w : sm_Mem} {d : sm_R} {os : List sm_R} {x : Int32} {dflt lo hi : Int} {offs : Array Int} {len : Nat} (tgts : List Nat) (dt : Nat) (hd : sm_D M.2.1 pc len pc1 (.tableswitch dflt lo hi offs)) (hhi : hi + 1 = lo + os.length)
    (htg : offs.toList.map (fun z => (pc : Int) + z) = tgts.map (fun (z : Nat) => (z : Int))) (hdt : (pc : Int) + dflt = (dt : Int)) (kk : sm_swk E M L st w tgts os) (kd : sm_Sim E M dt L st w d) : sm_Sim E M pc L (.int x :: st) w (sm_sw x lo os d) := by
  intro v w1 ho p l e R s m args below meth c base D ad ca cells slots Q hO H locs ls hP hS hl
  obtain ⟨hd, rfl⟩ := hd
  obtain ⟨hlen, hget⟩ := sm_swk_get kk
  have hlen2 : offs.toList.length = tgts.length := by
    have := congrArg List.length htg
    simpa using this
  unfold sm_sw at ho
  by_cases hx : x.toInt < lo ∨ lo + os.length ≤ x.toInt
  · rw [if_pos hx] at ho
    exact lv_tableOut hO.1 hO.2.1 hd (by omega) hdt (kd v w1 ho _ _ _ _ _ _ _ _ _ _ _ _ _ _ _ _ _ hO H locs _ hP hS hl)
  · rw [if_neg hx] at ho
    have hj : (x.toInt - lo).toNat < os.length := by omega
    have hl2 : (x.toInt - lo).toNat < tgts.length := by omega
    have hl1 : (x.toInt - lo).toNat < offs.toList.length := by omega
    have e1 : offs[(x.toInt - lo).toNat]? = some (offs.toList[(x.toInt - lo).toNat]) := by
      rw [← Array.getElem?_toList, List.getElem?_eq_getElem hl1]
    have e2 : (pc : Int) + offs.toList[(x.toInt - lo).toNat] = ((tgts[(x.toInt - lo).toNat] : Nat) : Int) := by
      have h3 := congrArg (fun z => z[(x.toInt - lo).toNat]?) htg
      simp only [List.getElem?_map, List.getElem?_eq_getElem hl1, List.getElem?_eq_getElem hl2, Option.map_some, Option.some.injEq] at h3
      exact h3
    have e3 : os.getD (x.toInt - lo).toNat d = os[(x.toInt - lo).toNat] := by
      rw [List.getD_eq_getElem?_getD, List.getElem?_eq_getElem hj]
      rfl
    rw [e3] at ho
    exact lv_tableIn hO.1 hO.2.1 hd (by omega) (by omega) e1 e2 (hget _ _ _ (List.getElem?_eq_getElem hl2) (List.getElem?_eq_getElem hj) v w1 ho _ _ _ _ _ _ _ _ _ _ _ _ _ _ _ _ _ hO H locs _ hP hS hl)
/-! returns -/
theorem sm_iret {E : Nat × (Nat → Int32)} {M : sm_MI} {pc : Nat} {L : List (Option Value)} {w : sm_Mem} {x : Int32} (hd : sm_D M.2.1 pc 1 (pc + 1) .ireturn) (hr : M.2.2.2.1 = some .int) : sm_Sim E M pc L [.int x] w (some (.int x, w)) := by
  intro v w1 ho p l e R s m args below meth c base D ad ca cells slots Q hO H locs ls hP hS hl
  cases ho
  exact hO.2.2.2.2.2.2.2.2.2.2.2.2.1 x rfl (Or.inl hr) H locs ls pc hd.1 hP hS
theorem sm_zret1 {E : Nat × (Nat → Int32)} {M : sm_MI} {pc : Nat} {L : List (Option Value)} {w : sm_Mem} {x : Int32} (hd : sm_D M.2.1 pc 1 (pc + 1) .ireturn) (hr : M.2.2.2.1 = some .boolean) (hx : x = 0 ∨ x = 1) : sm_Sim E M pc L [.int x] w (some (.int x, w)) := by
  intro v w1 ho p l e R s m args below meth c base D ad ca cells slots Q hO H locs ls hP hS hl
  cases ho
  exact hO.2.2.2.2.2.2.2.2.2.2.2.2.1 x rfl (Or.inr ⟨hr, hx⟩) H locs ls pc hd.1 hP hS
theorem sm_zret {E : Nat × (Nat → Int32)} {M : sm_MI} {pc : Nat} {L : List (Option Value)} {w : sm_Mem} {x : Int32} (hd : sm_D M.2.1 pc 1 (pc + 1) .ireturn) (hr : M.2.2.2.1 = some .boolean) : sm_Sim E M pc L [.int x] w (sm_rz x w) := by
  intro v w1 ho p l e R s m args below meth c base D ad ca cells slots Q hO H locs ls hP hS hl
  unfold sm_rz at ho
  split at ho
  · rename_i hx
    exact sm_zret1 hd hr hx v w1 ho _ _ _ _ _ _ _ _ _ _ _ _ _ _ _ _ _ hO H locs ls hP hS hl
  · cases ho
theorem sm_lret {E : Nat × (Nat → Int32)} {M : sm_MI} {pc : Nat} {L : List (Option Value)} {w : sm_Mem} {x : Int64} (hd : sm_D M.2.1 pc 1 (pc + 1) .lreturn) (hr : M.2.2.2.1 = some .long) : sm_Sim E M pc L [.long x] w (some (.long x, w)) := by
  intro v w1 ho p l e R s m args below meth c base D ad ca cells slots Q hO H locs ls hP hS hl
  cases ho
  exact hO.2.2.2.2.2.2.2.2.2.2.2.2.2.1 x rfl hr H locs ls pc hd.1 hP hS
theorem sm_vret {E : Nat × (Nat → Int32)} {M : sm_MI} {pc : Nat} {L : List (Option Value)} {w : sm_Mem} (hd : sm_D M.2.1 pc 1 (pc + 1) .return_) (hr : M.2.2.2.1 = none) : sm_Sim E M pc L [] w (some (.null, w)) := by
  intro v w1 ho p l e R s m args below meth c base D ad ca cells slots Q hO H locs ls hP hS hl
  cases ho
  exact hO.2.2.2.2.2.2.2.2.2.2.2.2.2.2 rfl hr H locs ls pc hd.1 hP hS
