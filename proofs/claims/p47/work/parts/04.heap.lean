/-! rows: fields, arrays, calls -/
def sm_FL (own : String) (idx ci j : Nat) : Prop := ∃ (C : String) (T : u_T) (N : Nat), vwCl[ci]? = some (C, T, N) ∧ j < N ∧ (T j).1 = C ∧ (∀ z ∈ u_ws C T N, z ∈ lw_tbl) ∧ (Cond.fieldLink own idx C (T j).2.1 (T j).2.2.1 ∈ lw_tbl ∨ ∃ host, Cond.fieldLinkNest own idx C (T j).2.1 (T j).2.2.1 host ∈ lw_tbl)
def sm_FP (own : String) (idx ci j : Nat) (ty : FieldType) : Prop := ∃ (C : String) (T : u_T) (N : Nat) (t0 : Nat → FieldType), vwCl[ci]? = some (C, T, N) ∧ j < N ∧ (T j).1 = C ∧ (∀ z ∈ u_ws C T N, z ∈ lw_tbl) ∧ (∀ k, k < N → parseFieldDescriptor (T k).2.2.1 = some (t0 k)) ∧ (∀ a, a < N → ∀ b, b < N → a ≠ b → (T a).2.1 ≠ (T b).2.1) ∧ (T j).2.2.2 = false ∧ parseFieldDescriptor (T j).2.2.1 = some ty ∧ (Cond.fieldLink own idx C (T j).2.1 (T j).2.2.1 ∈ lw_tbl ∨ ∃ host, Cond.fieldLinkNest own idx C (T j).2.1 (T j).2.2.1 host ∈ lw_tbl)
theorem sm_goodlay {C : String} {T : u_T} {N : Nat} {z : Cond} (h : z ∈ u_ws C T N) : goodWord z = true := by
  obtain ⟨k, -, rfl⟩ := List.mem_map.mp h
  unfold u_lay
  split <;> rfl
theorem sm_wsin {C : String} {T : u_T} {N : Nat} (h : ∀ z ∈ u_ws C T N, z ∈ lw_tbl) : ∀ z ∈ u_ws C T N, z ∈ sm_good := fun z hz => List.mem_filter.mpr ⟨h z hz, sm_goodlay hz⟩
theorem sm_Wget {p : Program} {l : Launch} {e : Env} {R : Room} {s : State} {m : MethodId} {args : Array Value} {below : List Frame} {meth : Method} {c : Code} {base : Nat} {D : va_G} {ad : Nat → Nat} {ca : Nat → ClassId} {cells slots : Nat} {Q : State → Prop} {E : Nat × (Nat → Int32)} {M : sm_MI} {v : Value} {w1 : sm_Mem} (hO : sm_OK p l e R s m args below meth c base D ad ca cells slots Q E M v w1) {H : Heap} {locs : List Loc} {ls : Array Slot} {w : sm_Mem} (hP : va_P D vwCl (sm_conc ad ca w) H) {pc idx k ci j : Nat} {f : Nat × Nat} {fs : List (Nat × Nat)} {rest : List Value} (hd : decode M.2.1 pc = .ok (.getfield idx, 3)) (hF : sm_FL M.1.cls idx ci j) (hs : sm_shape[k]? = some (.inl (ci, fs))) (hf : fs[j]? = some f)
    (kk : W p l e R s m args below meth c H locs cells slots Q (F0 m (pc + 3) ls (sm_val ad w k j f :: rest))) : W p l e R s m args below meth c H locs cells slots Q (F0 m pc ls (.ref (ad k) :: rest)) := by
  obtain ⟨C, T, N, hc, hj, hT, hin, hlk⟩ := hF
  obtain ⟨hx, hb, hml, hown, hts, hZ, hK, -⟩ := hO
  have hv : (fs.mapIdx (fun j f => sm_val ad w k j f))[j]? = some (sm_val ad w k j f) := by rw [List.getElem?_mapIdx, hf]; rfl
  rcases hlk with hlk | ⟨host, hlk⟩
  · exact va_get hx hb hts (sm_wsin hin) hown hK hP k (sm_get hs) hc j hj (sm_wgood hts hlk rfl) (fun _ h9 => by rw [← hT]; exact h9) hv hd kk
  · exact va_getN hx hb hts (sm_wsin hin) hown hK hP k (sm_get hs) hc j hj (va_Nw.use rfl (hZ _ hlk rfl)) (fun _ h9 => by rw [← hT]; exact h9) hv hd kk
theorem sm_Wput {p : Program} {l : Launch} {e : Env} {R : Room} {s : State} {m : MethodId} {args : Array Value} {below : List Frame} {meth : Method} {c : Code} {base : Nat} {D : va_G} {ad : Nat → Nat} {ca : Nat → ClassId} {cells slots : Nat} {Q : State → Prop} {E : Nat × (Nat → Int32)} {M : sm_MI} {v : Value} {w1 : sm_Mem} (hO : sm_OK p l e R s m args below meth c base D ad ca cells slots Q E M v w1) {H : Heap} {locs : List Loc} {ls : Array Slot} {w w2 : sm_Mem} (hP : va_P D vwCl (sm_conc ad ca w) H) (hS : va_S (fun q => base ≤ q) s.heap H locs) {pc idx k ci j : Nat} {ty : FieldType} {fs : List (Nat × Nat)} {rest : List Value} {x : Value} (hd : decode M.2.1 pc = .ok (.putfield idx, 3)) (hF : sm_FP M.1.cls idx ci j ty) (hs : sm_shape[k]? = some (.inl (ci, fs))) (hl : j < fs.length) (hn : narrow ty x = x) (hfit : fits ty x = true)
    (hset : (sm_conc ad ca w).set k (ad k, .inr (ci, (fs.mapIdx (fun j f => sm_val ad w k j f)).set j x)) = sm_conc ad ca w2)
    (kk : ∀ (H1 : Heap) (locs1 : List Loc), va_P D vwCl (sm_conc ad ca w2) H1 → va_S (fun q => base ≤ q) s.heap H1 locs1 → W p l e R s m args below meth c H1 locs1 cells slots Q (F0 m (pc + 3) ls rest)) : W p l e R s m args below meth c H locs cells slots Q (F0 m pc ls (x :: .ref (ad k) :: rest)) := by
  obtain ⟨C, T, N, t0, hc, hj, hT, hin, hty, hnm, hfin, hpd, hlk⟩ := hF
  obtain ⟨hx, hb, hml, hown, hts, hZ, hK, hD, -⟩ := hO
  have hl2 : j < (fs.mapIdx (fun j f => sm_val ad w k j f)).length := by simpa using hl
  rcases hlk with hlk | ⟨host, hlk⟩
  · exact va_put hx hb hts (sm_wsin hin) t0 hty hnm hown hK hP (hD w) hS k (sm_get hs) hc j hj (sm_wgood hts hlk rfl) (fun _ h9 => by rw [← hT]; exact h9) hfin hpd hn hfit hl2 hd (fun H1 locs1 h1 _ h3 => kk H1 locs1 (by rw [← hset]; exact h1) h3)
  · exact va_putN hx hb hts (sm_wsin hin) t0 hty hnm hown hK hP (hD w) hS k (sm_get hs) hc j hj (va_Nw.use rfl (hZ _ hlk rfl)) (fun _ h9 => by rw [← hT]; exact h9) hfin hpd hn hfit hl2 hd (fun H1 locs1 h1 _ h3 => kk H1 locs1 (by rw [← hset]; exact h1) h3)
def sm_gI (w : sm_Mem) (k ci j : Nat) : Option Int32 := match sm_fk k ci j 0 with
  | some _ => some (w.1 k j)
  | none => none
def sm_pI (w : sm_Mem) (k ci j : Nat) (x : Int32) : Option sm_Mem := match sm_fk k ci j 0 with
  | some _ => some (sm_wI w k j x)
  | none => none
theorem sm_getI {E : Nat × (Nat → Int32)} {M : sm_MI} {pc pc1 : Nat} {L : List (Option Value)} {st : List Value} {w : sm_Mem} {o : sm_R} {idx k ci j cc : Nat} (hd : sm_D M.2.1 pc 3 pc1 (.getfield idx)) (hF : sm_FL M.1.cls idx ci j) (hs : sm_fk k ci j 0 = some cc) (kk : sm_Sim E M pc1 L (.int (w.1 k j) :: st) w o) : sm_Sim E M pc L (.ref k :: st) w o := by
  intro v w1 ho p l e R s m args below meth c base D ad ca cells slots Q hO H locs ls hP hS hl
  obtain ⟨hd, rfl⟩ := hd
  obtain ⟨fs, h1, h2⟩ := sm_fk_spec hs
  exact sm_Wget hO hP hd hF h1 h2 (kk v w1 ho _ _ _ _ _ _ _ _ _ _ _ _ _ _ _ _ _ hO H locs ls hP hS hl)
theorem sm_getL {E : Nat × (Nat → Int32)} {M : sm_MI} {pc pc1 : Nat} {L : List (Option Value)} {st : List Value} {w : sm_Mem} {o : sm_R} {idx k ci j cc : Nat} (hd : sm_D M.2.1 pc 3 pc1 (.getfield idx)) (hF : sm_FL M.1.cls idx ci j) (hs : sm_fk k ci j 1 = some cc) (kk : sm_Sim E M pc1 L (.long (w.2 k j) :: st) w o) : sm_Sim E M pc L (.ref k :: st) w o := by
  intro v w1 ho p l e R s m args below meth c base D ad ca cells slots Q hO H locs ls hP hS hl
  obtain ⟨hd, rfl⟩ := hd
  obtain ⟨fs, h1, h2⟩ := sm_fk_spec hs
  exact sm_Wget hO hP hd hF h1 h2 (kk v w1 ho _ _ _ _ _ _ _ _ _ _ _ _ _ _ _ _ _ hO H locs ls hP hS hl)
theorem sm_getR {E : Nat × (Nat → Int32)} {M : sm_MI} {pc pc1 : Nat} {L : List (Option Value)} {st : List Value} {w : sm_Mem} {o : sm_R} {idx k ci j : Nat} (cc : Nat) (hd : sm_D M.2.1 pc 3 pc1 (.getfield idx)) (hF : sm_FL M.1.cls idx ci j) (hs : sm_fk k ci j 2 = some cc) (kk : sm_Sim E M pc1 L (.ref cc :: st) w o) : sm_Sim E M pc L (.ref k :: st) w o := by
  intro v w1 ho p l e R s m args below meth c base D ad ca cells slots Q hO H locs ls hP hS hl
  obtain ⟨hd, rfl⟩ := hd
  obtain ⟨fs, h1, h2⟩ := sm_fk_spec hs
  exact sm_Wget hO hP hd hF h1 h2 (kk v w1 ho _ _ _ _ _ _ _ _ _ _ _ _ _ _ _ _ _ hO H locs ls hP hS hl)
theorem sm_getIs {E : Nat × (Nat → Int32)} {M : sm_MI} {pc pc1 : Nat} {L : List (Option Value)} {st : List Value} {w : sm_Mem} {idx k ci j : Nat} {f : Int32 → sm_R} (hd : sm_D M.2.1 pc 3 pc1 (.getfield idx)) (hF : sm_FL M.1.cls idx ci j) (kk : ∀ x, sm_Sim E M pc1 L (.int x :: st) w (f x)) : sm_Sim E M pc L (.ref k :: st) w (Option.bind (sm_gI w k ci j) f) := by
  intro v w1 ho
  obtain ⟨x, h1, h2⟩ := sm_bind ho
  unfold sm_gI at h1
  split at h1
  · rename_i cc hs
    cases h1
    exact sm_getI hd hF hs (kk _) v w1 h2
  · cases h1
theorem sm_getRs {E : Nat × (Nat → Int32)} {M : sm_MI} {pc pc1 : Nat} {L : List (Option Value)} {st : List Value} {w : sm_Mem} {idx k ci j : Nat} {f : Nat → sm_R} (hd : sm_D M.2.1 pc 3 pc1 (.getfield idx)) (hF : sm_FL M.1.cls idx ci j) (kk : ∀ x, sm_Sim E M pc1 L (.ref x :: st) w (f x)) : sm_Sim E M pc L (.ref k :: st) w (Option.bind (sm_fk k ci j 2) f) := by
  intro v w1 ho
  obtain ⟨x, h1, h2⟩ := sm_bind ho
  exact sm_getR x hd hF h1 (kk _) v w1 h2
theorem sm_putI {E : Nat × (Nat → Int32)} {M : sm_MI} {pc pc1 : Nat} {L : List (Option Value)} {st : List Value} {w : sm_Mem} {idx k ci j cc : Nat} {x : Int32} {f : sm_Mem → sm_R} (hd : sm_D M.2.1 pc 3 pc1 (.putfield idx)) (hF : sm_FP M.1.cls idx ci j .int) (hs : sm_fk k ci j 0 = some cc) (kk : ∀ w2, sm_Sim E M pc1 L st w2 (f w2)) : sm_Sim E M pc L (.int x :: .ref k :: st) w (sm_let (sm_wI w k j x) f) := by
  intro v w1 ho p l e R s m args below meth c base D ad ca cells slots Q hO H locs ls hP hS hl
  obtain ⟨hd, rfl⟩ := hd
  obtain ⟨fs, h1, h2⟩ := sm_fk_spec hs
  exact sm_Wput hO hP hS hd hF h1 (List.getElem?_eq_some_iff.mp h2).1 rfl rfl (sm_setI h1 h2 x) (fun H1 locs1 hP1 hS1 => kk _ v w1 ho _ _ _ _ _ _ _ _ _ _ _ _ _ _ _ _ _ hO H1 locs1 ls hP1 hS1 hl)
theorem sm_putZ {E : Nat × (Nat → Int32)} {M : sm_MI} {pc pc1 : Nat} {L : List (Option Value)} {st : List Value} {w : sm_Mem} {idx k ci j cc : Nat} {x : Int32} {f : sm_Mem → sm_R} (hd : sm_D M.2.1 pc 3 pc1 (.putfield idx)) (hF : sm_FP M.1.cls idx ci j .boolean) (hs : sm_fk k ci j 0 = some cc) (hx : x = 0 ∨ x = 1) (kk : ∀ w2, sm_Sim E M pc1 L st w2 (f w2)) : sm_Sim E M pc L (.int x :: .ref k :: st) w (sm_let (sm_wI w k j x) f) := by
  intro v w1 ho p l e R s m args below meth c base D ad ca cells slots Q hO H locs ls hP hS hl
  obtain ⟨hd, rfl⟩ := hd
  obtain ⟨fs, h1, h2⟩ := sm_fk_spec hs
  exact sm_Wput hO hP hS hd hF h1 (List.getElem?_eq_some_iff.mp h2).1 (by rcases hx with rfl | rfl <;> rfl) (by rcases hx with rfl | rfl <;> rfl) (sm_setI h1 h2 x) (fun H1 locs1 hP1 hS1 => kk _ v w1 ho _ _ _ _ _ _ _ _ _ _ _ _ _ _ _ _ _ hO H1 locs1 ls hP1 hS1 hl)
theorem sm_putL {E : Nat × (Nat → Int32)} {M : sm_MI} {pc pc1 : Nat} {L : List (Option Value)} {st : List Value} {w : sm_Mem} {idx k ci j cc : Nat} {x : Int64} {f : sm_Mem → sm_R} (hd : sm_D M.2.1 pc 3 pc1 (.putfield idx)) (hF : sm_FP M.1.cls idx ci j .long) (hs : sm_fk k ci j 1 = some cc) (kk : ∀ w2, sm_Sim E M pc1 L st w2 (f w2)) : sm_Sim E M pc L (.long x :: .ref k :: st) w (sm_let (sm_wL w k j x) f) := by
  intro v w1 ho p l e R s m args below meth c base D ad ca cells slots Q hO H locs ls hP hS hl
  obtain ⟨hd, rfl⟩ := hd
  obtain ⟨fs, h1, h2⟩ := sm_fk_spec hs
  exact sm_Wput hO hP hS hd hF h1 (List.getElem?_eq_some_iff.mp h2).1 rfl rfl (sm_setL h1 h2 x) (fun H1 locs1 hP1 hS1 => kk _ v w1 ho _ _ _ _ _ _ _ _ _ _ _ _ _ _ _ _ _ hO H1 locs1 ls hP1 hS1 hl)
theorem sm_putIs {E : Nat × (Nat → Int32)} {M : sm_MI} {pc pc1 : Nat} {L : List (Option Value)} {st : List Value} {w : sm_Mem} {idx k ci j : Nat} {x : Int32} {f : sm_Mem → sm_R} (hd : sm_D M.2.1 pc 3 pc1 (.putfield idx)) (hF : sm_FP M.1.cls idx ci j .int) (kk : ∀ w2, sm_Sim E M pc1 L st w2 (f w2)) : sm_Sim E M pc L (.int x :: .ref k :: st) w (Option.bind (sm_pI w k ci j x) f) := by
  intro v w1 ho
  obtain ⟨w2, h1, h2⟩ := sm_bind ho
  unfold sm_pI at h1
  split at h1
  · rename_i cc hs
    cases h1
    exact sm_putI (f := f) hd hF hs kk v w1 h2
  · cases h1
/-! arrays -/
theorem sm_ix {i : Int32} {n : Nat} (h : ¬ (i < 0 ∨ n ≤ i.toNatClampNeg)) : vp_in i n := h
theorem sm_iald {E : Nat × (Nat → Int32)} {M : sm_MI} {pc pc1 : Nat} {L : List (Option Value)} {st : List Value} {w : sm_Mem} {k n : Nat} {i : Int32} {f : Int32 → sm_R} (hd : sm_D M.2.1 pc 1 pc1 .iaload) (hs : sm_shape[k]? = some (.inr (.inl n))) (kk : ∀ x, sm_Sim E M pc1 L (.int x :: st) w (f x)) : sm_Sim E M pc L (.int i :: .ref k :: st) w (Option.bind (sm_rd w k n i) f) := by
  intro v w1 ho
  obtain ⟨x, h1, h2⟩ := sm_bind ho
  revert ho
  intro ho p l e R s m args below meth c base D ad ca cells slots Q hO H locs ls hP hS hl
  obtain ⟨hd, rfl⟩ := hd
  unfold sm_rd at h1
  split at h1
  · cases h1
  · rename_i hin
    cases h1
    exact va_iald hO.1 hO.2.1 hO.2.2.2.2.2.2.1 hP k 0 (sm_get hs) rfl hin hd (kk _ v w1 h2 _ _ _ _ _ _ _ _ _ _ _ _ _ _ _ _ _ hO H locs ls hP hS hl)
theorem sm_ialds {E : Nat × (Nat → Int32)} {M : sm_MI} {pc pc1 : Nat} {L : List (Option Value)} {st : List Value} {w : sm_Mem} {k : Nat} {i : Int32} {f : Int32 → sm_R} (hd : sm_D M.2.1 pc 1 pc1 .iaload) (kk : ∀ x, sm_Sim E M pc1 L (.int x :: st) w (f x)) : sm_Sim E M pc L (.int i :: .ref k :: st) w (Option.bind (sm_rds w k i) f) := by
  intro v w1 ho
  unfold sm_rds at ho
  split at ho
  · rename_i n hs
    exact sm_iald hd hs kk v w1 ho
  · cases ho
theorem sm_iast {E : Nat × (Nat → Int32)} {M : sm_MI} {pc pc1 : Nat} {L : List (Option Value)} {st : List Value} {w : sm_Mem} {k n : Nat} {i x : Int32} {f : sm_Mem → sm_R} (hd : sm_D M.2.1 pc 1 pc1 .iastore) (hs : sm_shape[k]? = some (.inr (.inl n))) (kk : ∀ w2, sm_Sim E M pc1 L st w2 (f w2)) : sm_Sim E M pc L (.int x :: .int i :: .ref k :: st) w (Option.bind (sm_wr w k n i x) f) := by
  intro v w1 ho
  obtain ⟨w2, h1, h2⟩ := sm_bind ho
  revert ho
  intro ho p l e R s m args below meth c base D ad ca cells slots Q hO H locs ls hP hS hl
  obtain ⟨hd, rfl⟩ := hd
  unfold sm_wr at h1
  split at h1
  · cases h1
  · rename_i hin
    cases h1
    exact va_iast hO.1 hO.2.1 hO.2.2.2.2.2.2.1 hP (hO.2.2.2.2.2.2.2.1 w) hS k 0 (sm_get hs) rfl hin hd (fun H1 locs1 hP1 _ hS1 => kk _ v w1 h2 _ _ _ _ _ _ _ _ _ _ _ _ _ _ _ _ _ hO H1 locs1 ls (by rw [← sm_setA hs]; exact hP1) hS1 hl)
theorem sm_iasts {E : Nat × (Nat → Int32)} {M : sm_MI} {pc pc1 : Nat} {L : List (Option Value)} {st : List Value} {w : sm_Mem} {k : Nat} {i x : Int32} {f : sm_Mem → sm_R} (hd : sm_D M.2.1 pc 1 pc1 .iastore) (kk : ∀ w2, sm_Sim E M pc1 L st w2 (f w2)) : sm_Sim E M pc L (.int x :: .int i :: .ref k :: st) w (Option.bind (sm_wrs w k i x) f) := by
  intro v w1 ho
  unfold sm_wrs at ho
  split at ho
  · rename_i n hs
    exact sm_iast hd hs kk v w1 ho
  · cases ho
theorem sm_aald {E : Nat × (Nat → Int32)} {M : sm_MI} {pc pc1 : Nat} {L : List (Option Value)} {st : List Value} {w : sm_Mem} {k : Nat} {i : Int32} {f : Nat → sm_R} (hd : sm_D M.2.1 pc 1 pc1 .aaload) (kk : ∀ x, sm_Sim E M pc1 L (.ref x :: st) w (f x)) : sm_Sim E M pc L (.int i :: .ref k :: st) w (Option.bind (sm_rr k i) f) := by
  intro v w1 ho
  obtain ⟨x, h1, h2⟩ := sm_bind ho
  revert ho
  intro ho p l e R s m args below meth c base D ad ca cells slots Q hO H locs ls hP hS hl
  obtain ⟨hd, rfl⟩ := hd
  unfold sm_rr at h1
  split at h1
  · rename_i t ids hs
    split at h1
    · cases h1
    · rename_i hin
      split at h1
      · rename_i ht
        have hg : va_rf ((ids[i.toNatClampNeg]?).map ad) = sm_tr ad (.ref x) := by rw [h1]; rfl
        have kk2 := kk x v w1 h2 _ _ _ _ _ _ _ _ _ _ _ _ _ _ _ _ _ hO H locs ls hP hS hl
        rw [List.map_cons, ← hg] at kk2
        rcases ht with rfl | rfl
        · exact va_aldq (C := "HerOrders$Row") hO.1 hO.2.1 hO.2.2.2.2.2.2.1 hP k 1 (sm_get hs) rfl hin hd kk2
        · exact va_aldq (C := "HerOrders$Deeds") hO.1 hO.2.1 hO.2.2.2.2.2.2.1 hP k 2 (sm_get hs) rfl hin hd kk2
      · cases h1
  · cases h1
theorem sm_alen {E : Nat × (Nat → Int32)} {M : sm_MI} {pc pc1 : Nat} {L : List (Option Value)} {st : List Value} {w : sm_Mem} {k : Nat} {f : Int32 → sm_R} (hd : sm_D M.2.1 pc 1 pc1 .arraylength) (kk : ∀ x, sm_Sim E M pc1 L (.int x :: st) w (f x)) : sm_Sim E M pc L (.ref k :: st) w (Option.bind (sm_al k) f) := by
  intro v w1 ho
  obtain ⟨x, h1, h2⟩ := sm_bind ho
  revert ho
  intro ho p l e R s m args below meth c base D ad ca cells slots Q hO H locs ls hP hS hl
  obtain ⟨hd, rfl⟩ := hd
  have kk2 := kk x v w1 h2 _ _ _ _ _ _ _ _ _ _ _ _ _ _ _ _ _ hO H locs ls hP hS hl
  unfold sm_al at h1
  split at h1
  · rename_i n hs
    cases h1
    exact va_alen (ty := .int) hO.1 hO.2.1 hO.2.2.2.2.2.2.1 hP k 0 (sm_get hs) rfl rfl hd kk2
  · rename_i t ids hs
    split at h1
    · rename_i ht
      cases h1
      rcases ht with rfl | rfl
      · exact va_alen (ty := .object "HerOrders$Row") hO.1 hO.2.1 hO.2.2.2.2.2.2.1 hP k 1 (sm_get hs) rfl rfl hd kk2
      · exact va_alen (ty := .object "HerOrders$Deeds") hO.1 hO.2.1 hO.2.2.2.2.2.2.1 hP k 2 (sm_get hs) rfl rfl hd kk2
    · cases h1
  · cases h1
/-- System.arraycopy between int rows -/
def sm_acp (w : sm_Mem) (a : Nat) (sp : Int32) (b : Nat) (dp n : Int32) : Option sm_Mem := match sm_shape[a]?, sm_shape[b]? with
  | some (.inr (.inl na)), some (.inr (.inl nb)) => if sp < 0 ∨ dp < 0 ∨ n < 0 ∨ na < sp.toNatClampNeg + n.toNatClampNeg ∨ nb < dp.toNatClampNeg + n.toNatClampNeg then none else some (sm_wA w b (va_cpy (w.1 a) (w.1 b) sp.toNatClampNeg dp.toNatClampNeg n.toNatClampNeg))
  | _, _ => none
theorem sm_copy {E : Nat × (Nat → Int32)} {M : sm_MI} {pc pc1 : Nat} {L : List (Option Value)} {w : sm_Mem} {idx a b : Nat} {sp dp n : Int32} {f : sm_Mem → sm_R} (hd : sm_D M.2.1 pc 3 pc1 (.invokestatic idx)) (hk : 2 ≤ M.2.2.2.2) (hl1 : Cond.methodLink M.1.cls idx arraycopyName ∈ lw_tbl) (hl2 : Cond.native arraycopyName ∈ lw_tbl) (hl3 : Cond.static arraycopyName ∈ lw_tbl) (hl4 : Cond.initialized "java/lang/System" ∈ lw_tbl) (kk : ∀ w2, sm_Sim E M pc1 L [] w2 (f w2)) : sm_Sim E M pc L [.int n, .int dp, .ref b, .int sp, .ref a] w (Option.bind (sm_acp w a sp b dp n) f) := by
  intro v w1 ho
  obtain ⟨w2, h1, h2⟩ := sm_bind ho
  revert ho
  intro ho p l e R s m args below meth c base D ad ca cells slots Q hO H locs ls hP hS hl
  obtain ⟨hd, rfl⟩ := hd
  unfold sm_acp at h1
  split at h1
  · rename_i na nb hs1 hs2
    split at h1
    · cases h1
    · rename_i hc
      cases h1
      have hts := hO.2.2.2.2.1
      have hR := hO.2.2.2.2.2.2.2.2.2.1
      refine va_copyi (ty := .int) hO.1 hO.2.1 (hO.2.2.1.trans hl.1.symm) hO.2.2.2.1 (sm_wgood hts hl1 rfl) (sm_wgood hts hl2 rfl) (sm_wgood hts hl3 rfl) (sm_wgood hts hl4 rfl) hO.2.2.2.2.2.2.1 hP (hO.2.2.2.2.2.2.2.1 w) hS a b 0 0 (sm_get hs1) (sm_get hs2) rfl rfl rfl (fun h => hc (Or.inl h)) (fun h => hc (Or.inr (Or.inl h))) (fun h => hc (Or.inr (Or.inr (Or.inl h)))) (Nat.le_of_not_lt fun h => hc (Or.inr (Or.inr (Or.inr (Or.inl h))))) (Nat.le_of_not_lt fun h => hc (Or.inr (Or.inr (Or.inr (Or.inr h))))) (fun _ _ => rfl) (by omega) ?_ hd (fun H1 locs1 hP1 _ hS1 => kk _ v w1 h2 _ _ _ _ _ _ _ _ _ _ _ _ _ _ _ _ _ hO H1 locs1 ls (by rw [← sm_setF hs2]; exact hP1) hS1 hl)
      have h3 : nativeFrameWords "java/lang/System" "arraycopy" 5 + 11 ≤ 80 := by decide +kernel
      have h4 := hR.2.1
      simp only [List.map_nil, List.sum_nil]
      omega
  · cases h1
/-! the letters, the script -/
theorem sm_gst {E : Nat × (Nat → Int32)} {M : sm_MI} {pc pc1 : Nat} {L : List (Option Value)} {st : List Value} {w : sm_Mem} {o : sm_R} {idx : Nat} (hd : sm_D M.2.1 pc 3 pc1 (.getstatic idx)) (hlk : Cond.fieldLink M.1.cls idx "HerOrders" "KIND_LETTERS" "[I" ∈ lw_tbl) (kk : sm_Sim E M pc1 L (.ref 998 :: st) w o) : sm_Sim E M pc L st w o := by
  intro v w1 ho p l e R s m args below meth c base D ad ca cells slots Q hO H locs ls hP hS hl
  obtain ⟨hd, rfl⟩ := hd
  exact va_gets hO.1 hO.2.1 hO.2.2.2.2.2.2.2.2.2.2.1.1 hS hO.2.2.2.1 (sm_wgood hO.2.2.2.2.1 hlk rfl) (fun _ h9 => h9) hd (kk v w1 ho _ _ _ _ _ _ _ _ _ _ _ _ _ _ _ _ _ hO H locs ls hP hS hl)
theorem sm_kald {E : Nat × (Nat → Int32)} {M : sm_MI} {pc pc1 : Nat} {L : List (Option Value)} {st : List Value} {w : sm_Mem} {i : Int32} {f : Int32 → sm_R} (hd : sm_D M.2.1 pc 1 pc1 .iaload) (kk : ∀ x, sm_Sim E M pc1 L (.int x :: st) w (f x)) : sm_Sim E M pc L (.int i :: .ref 998 :: st) w (Option.bind (sm_kd i) f) := by
  intro v w1 ho
  obtain ⟨x, h1, h2⟩ := sm_bind ho
  revert ho
  intro ho p l e R s m args below meth c base D ad ca cells slots Q hO H locs ls hP hS hl
  obtain ⟨hd, rfl⟩ := hd
  unfold sm_kd at h1
  split at h1
  · cases h1
  · rename_i hin
    cases h1
    exact va_ti hO.1 hO.2.1 hO.2.2.2.2.2.2.2.2.2.2.1.2 hS (i := i) hin rfl hd (kk _ v w1 h2 _ _ _ _ _ _ _ _ _ _ _ _ _ _ _ _ _ hO H locs ls hP hS hl)
theorem sm_sald {E : Nat × (Nat → Int32)} {M : sm_MI} {pc pc1 : Nat} {L : List (Option Value)} {st : List Value} {w : sm_Mem} {i : Int32} {f : Int32 → sm_R} (hd : sm_D M.2.1 pc 1 pc1 .iaload) (kk : ∀ x, sm_Sim E M pc1 L (.int x :: st) w (f x)) : sm_Sim E M pc L (.int i :: .ref 999 :: st) w (Option.bind (sm_sc E i) f) := by
  intro v w1 ho
  obtain ⟨x, h1, h2⟩ := sm_bind ho
  revert ho
  intro ho p l e R s m args below meth c base D ad ca cells slots Q hO H locs ls hP hS hl
  obtain ⟨hd, rfl⟩ := hd
  obtain ⟨hX, hbl, hbA⟩ := hO.2.2.2.2.2.2.2.2.2.2.2.1
  unfold sm_sc at h1
  split at h1
  · cases h1
  · rename_i hin
    cases h1
    exact va_sld hO.1 hO.2.1 hX hbl hbA hS hin hd (kk _ v w1 h2 _ _ _ _ _ _ _ _ _ _ _ _ _ _ _ _ _ hO H locs ls hP hS hl)
theorem sm_slen {E : Nat × (Nat → Int32)} {M : sm_MI} {pc pc1 : Nat} {L : List (Option Value)} {st : List Value} {w : sm_Mem} {o : sm_R} (hd : sm_D M.2.1 pc 1 pc1 .arraylength) (kk : sm_Sim E M pc1 L (.int (Int32.ofNat E.1) :: st) w o) : sm_Sim E M pc L (.ref 999 :: st) w o := by
  intro v w1 ho p l e R s m args below meth c base D ad ca cells slots Q hO H locs ls hP hS hl
  obtain ⟨hd, rfl⟩ := hd
  obtain ⟨hX, hbl, hbA⟩ := hO.2.2.2.2.2.2.2.2.2.2.2.1
  exact va_slen hO.1 hO.2.1 hX hbl hbA hS hd (kk v w1 ho _ _ _ _ _ _ _ _ _ _ _ _ _ _ _ _ _ hO H locs ls hP hS hl)
/-! calls -/
def sm_ML (own : String) (idx : Nat) (y : MethodName) : Prop := Cond.methodLink own idx y ∈ lw_tbl ∨ ∃ host, Cond.methodLinkNest own idx y host ∈ lw_tbl
def sm_MF (M : sm_MI) (n : Nat) : Prop := Cond.code M.1 M.2.1 M.2.2.1 M.2.2.2.1 ∈ lw_tbl ∧ Cond.initialized M.1.cls ∈ lw_tbl ∧ (M.1.cls ≠ "java/lang/invoke/MethodHandle" ∧ M.1.cls ≠ "java/lang/invoke/VarHandle") ∧ (parseMethodDescriptor M.1.desc).map (fun d => d.parameters.length) = some n
def sm_MFV (M : sm_MI) : Prop := Cond.instanceMethod M.1 ∈ lw_tbl ∧ Cond.selects M.1.cls M.1 M.1 ∈ lw_tbl
def sm_MFS (M : sm_MI) : Prop := Cond.static M.1 ∈ lw_tbl
theorem sm_goodIn {M : sm_MI} (h : Cond.code M.1 M.2.1 M.2.2.1 M.2.2.2.1 ∈ lw_tbl) : GoodIn sm_good (sm_ws M) := by
  intro z hz
  rcases List.mem_cons.mp hz with rfl | hz
  · exact ⟨List.mem_filter.mpr ⟨h, rfl⟩, good_of_word rfl⟩
  · exact ⟨hz, good_of_word (List.mem_filter.mp hz).2⟩
theorem sm_dlen {desc : String} {n : Nat} (h : (parseMethodDescriptor desc).map (fun d => d.parameters.length) = some n) : ∀ sig, parseMethodDescriptor desc = some sig → n = sig.parameters.length := by
  intro sig h2
  rw [h2] at h
  exact (Option.some.inj h).symm
theorem sm_nestwarm {s U : State} (hW : s.WarmedH U.vm) (h : ∀ z ∈ lw_tbl, sm_nest z = true → va_Nw z s) : ∀ z ∈ lw_tbl, sm_nest z = true → va_Nw z U := by
  intro z hz hn
  have h1 := h z hz hn
  cases z <;> first | exact va_Nw.warmF hW h1 | exact va_Nw.warmM hW h1 | (simp [sm_nest] at hn)
theorem sm_STmoved {base t : Nat} {s U : State} {H : Heap} {locs : List Loc} (hW : s.WarmedH U.vm) (hU : U.heap = H) (hS : va_S (fun q => base ≤ q) s.heap H locs) (h : sm_ST base t s) : sm_ST base t U := by
  obtain ⟨h1, h2⟩ := h
  refine ⟨?_, ?_⟩
  · obtain ⟨cf, kf, fi, f, a, cell, q1, q2, q3, q4, q5, q6, q7, q8⟩ := h1
    have hlt : a < s.heap.size := (Array.getElem?_eq_some_iff.mp q5).1
    have hk : U.heap[a]? = s.heap[a]? := by rw [hU]; exact hS.2.1 a hlt q8
    have h3 := va_Z.moved (H := s.heap) hW.alike ⟨cf, kf, fi, f, a, cell, q1, q2, q3, q4, q5, q6, q7, q8⟩
    obtain ⟨cf, kf, fi, f, a, cell, q1, q2, q3, q4, q5, q6, q7, q8⟩ := h3
    have hlt : a < s.heap.size := (Array.getElem?_eq_some_iff.mp q5).1
    have hk : U.heap[a]? = s.heap[a]? := by rw [hU]; exact hS.2.1 a hlt q8
    exact ⟨cf, kf, fi, f, a, cell, q1, q2, q3, q4, by rw [hk]; exact q5, q6, q7, q8⟩
  · have h3 := va_T.moved (H := s.heap) hW.alike h2
    obtain ⟨cell, q1, q2⟩ := h3
    have hlt : t < s.heap.size := (Array.getElem?_eq_some_iff.mp q1).1
    have hk : U.heap[t]? = s.heap[t]? := by rw [hU]; exact hS.2.1 t hlt q2.2.2.2.2.2
    exact ⟨cell, by rw [hk]; exact q1, q2⟩
theorem sm_SXmoved {E : Nat × (Nat → Int32)} {base t : Nat} {s U : State} {H : Heap} {locs : List Loc} (hW : s.WarmedH U.vm) (hU : U.heap = H) (hS : va_S (fun q => base ≤ q) s.heap H locs) (h : sm_SX base t E s) : sm_SX base t E U := by
  obtain ⟨h1, h2, h3⟩ := h
  have hk : U.heap[t]? = s.heap[t]? := by rw [hU]; exact hS.2.1 t h2 h3
  exact ⟨va_X.kept (va_X.moved (H := s.heap) hW.alike h1) hk, Nat.lt_of_lt_of_le h2 (by rw [hU]; exact hS.1), h3⟩
theorem sm_pre {p : Program} {l : Launch} {e : Env} {R : Room} {s : State} {m : MethodId} {args : Array Value} {below : List Frame} {meth : Method} {c : Code} {base : Nat} {D : va_G} {ad : Nat → Nat} {ca : Nat → ClassId} {cells slots : Nat} {Q : State → Prop} {E : Nat × (Nat → Int32)} {M : sm_MI} {v : Value} {w1 : sm_Mem} (hO : sm_OK p l e R s m args below meth c base D ad ca cells slots Q E M v w1) {H : Heap} {locs : List Loc} {w : sm_Mem} (hP : va_P D vwCl (sm_conc ad ca w) H) (hS : va_S (fun q => base ≤ q) s.heap H locs) (as : List Value) (U : State) (hU : U.heap = H) (hW : s.WarmedH U.vm) : sm_Pc E base D ad ca w as (as.map (sm_tr ad)).toArray U :=
  ⟨rfl, Nat.le_trans hO.2.2.2.2.2.2.2.2.1 (by rw [hU]; exact hS.1), by rw [hU]; exact hP, va_K.moved hW.alike hO.2.2.2.2.2.2.1, hO.2.2.2.2.2.2.2.1, sm_nestwarm hW hO.2.2.2.2.2.1, sm_STmoved hW hU hS hO.2.2.2.2.2.2.2.2.2.2.1, sm_SXmoved hW hU hS hO.2.2.2.2.2.2.2.2.2.2.2.1⟩
set_option maxHeartbeats 1000000 in
theorem sm_runV {p : Program} {l : Launch} {e : Env} {R : Room} {s : State} {m : MethodId} {args : Array Value} {below : List Frame} {meth : Method} {c : Code} {base : Nat} {D : va_G} {ad : Nat → Nat} {ca : Nat → ClassId} {cells slots : Nat} {Q : State → Prop} {E : Nat × (Nat → Int32)} {M : sm_MI} {v : Value} {w1 : sm_Mem} (hO : sm_OK p l e R s m args below meth c base D ad ca cells slots Q E M v w1) {H : Heap} {locs : List Loc} {ls : Array Slot} {L : List (Option Value)} {w w2 : sm_Mem} {v2 : Value} {M2 : sm_MI} {o2 : sm_R} (hP : va_P D vwCl (sm_conc ad ca w) H) (hS : va_S (fun q => base ≤ q) s.heap H locs) (hl : lv_has ls M.2.2.1 (sm_loc ad 0 L)) {pc idx k ci n N : Nat} {T : u_T} {fs : List (Nat × Nat)} {as rest : List Value} (hd : decode M.2.1 pc = .ok (.invokevirtual idx, 3)) (hlk : sm_ML M.1.cls idx M2.1) (hF : sm_MF M2 n) (hV : sm_MFV M2) (hk : M2.2.2.2.2 + 1 ≤ M.2.2.2.2) (hnl : M2.2.2.1 ≤ 21) (hs : sm_shape[k]? = some (.inl (ci, fs))) (hc : vwCl[ci]? = some (M2.1.cls, T, N)) (hn : as.length = n) (hcat : (rest.map fun v => v.category).sum ≤ 8)
    (hM : sm_MC E M2 (.ref k :: as) w o2) (ho2 : o2 = some (v2, w2)) : va_Run p l e R s m args below meth c H locs cells slots 0 0 (F0 m pc ls ((as.reverse ++ .ref k :: rest).map (sm_tr ad))) (rest.map (sm_tr ad)) (sm_Q base D ad ca v2 w2 ((.ref k :: as : List Value).map (sm_tr ad)).toArray) (fun q => base ≤ q) := by
  have hM2 := hM v2 w2 ho2 l base D ad ca
  have hcw := sm_goodIn hF.1
  obtain ⟨hx, hb, hml, hown, hts, hZ, hK, hD, hba, hR, hST, -⟩ := id hO
  have hfix : CallFix p m c M.2.1 M.2.2.1 s args sm_good M.1.cls := ⟨hx, hb, hml, hown, hts⟩
  have hws : ∀ z ∈ sm_ws M2, ∀ (a2 : Array Value) (U : State), s.WarmedH U.vm → z.before a2 U = true := pay_in hts hcw
  have hpre : PreV s H M2.1.cls (ad k) (sm_Pc E base D ad ca w (.ref k :: as)) (as.map (sm_tr ad)) := ⟨sm_blind sm_nest_on, va_recv hK hP hc (sm_get hs), fun U hU hW => sm_pre hO hP hS (.ref k :: as) U hU hW⟩
  have hst : ((as.reverse ++ .ref k :: rest).map (sm_tr ad)) = (as.map (sm_tr ad)).reverse ++ .ref (ad k) :: rest.map (sm_tr ad) := by
    rw [List.map_append, List.map_reverse]
    rfl
  have hct : ((rest.map (sm_tr ad)).map fun v => v.category).sum ≤ 8 := by
    rw [List.map_map]
    have e : (fun v : Value => v.category) ∘ sm_tr ad = fun v => v.category := by
      funext z
      exact sm_tr_cat ad z
    rw [e]
    exact hcat
  have hroom : (sm_rm M2.2.2.2.2).frames + 1 ≤ R.frames ∧ 8 + (M2.2.2.1 + 11) + (sm_rm M2.2.2.2.2).locals ≤ R.locals := by
    have h1 := hR.1
    have h2 := hR.2.1
    refine ⟨?_, ?_⟩
    · show M2.2.2.2.2 + 1 ≤ _
      omega
    · show 8 + (M2.2.2.1 + 11) + 40 * M2.2.2.2.2 ≤ _
      omega
  have hgo := sm_wgood hts (z := Cond.code M2.1 M2.2.1 M2.2.2.1 M2.2.2.2.1) hF.1 rfl
  have hini := sm_wgood hts (z := Cond.initialized M2.1.cls) hF.2.1 rfl
  have hins := sm_wgood hts (z := Cond.instanceMethod M2.1) hV.1 rfl
  have hsel := sm_wgood hts (z := Cond.selects M2.1.cls M2.1 M2.1) hV.2 rfl
  have hlen : (as.map (sm_tr ad)).length = n := by rw [List.length_map]; exact hn
  rcases hlk with hlk | ⟨host, hlk⟩
  · exact va_runV (C := M2.1.cls) (bytes := M2.2.1) (maxL := M2.2.2.1) (ret := M2.2.2.2.1) (n := n) (index := idx) (b := ad k) (As := as.map (sm_tr ad)) hfix hM2 ⟨⟨rfl, rfl, hroom.1, hroom.2, hws, List.mem_cons_self, hgo, hini, hF.2.2.1, sm_dlen hF.2.2.2, sm_wgood hts hlk rfl⟩, hins, hsel⟩ hpre rfl hlen hl.1 hst (lv_room hct) hd ⟨hR.2.2.1, hR.2.2.2⟩
  · exact va_runVN (C := M2.1.cls) (bytes := M2.2.1) (maxL := M2.2.2.1) (ret := M2.2.2.2.1) (n := n) (index := idx) (b := ad k) (As := as.map (sm_tr ad)) hfix hM2 ⟨⟨⟨rfl, rfl, hroom.1, hroom.2, hws, List.mem_cons_self⟩, hgo, hini, hF.2.2.1, sm_dlen hF.2.2.2, va_Nw.use rfl (hZ _ hlk rfl)⟩, hins, hsel⟩ hpre rfl hlen hl.1 hst (lv_room hct) hd ⟨hR.2.2.1, hR.2.2.2⟩
set_option maxHeartbeats 1000000 in
theorem sm_runS {p : Program} {l : Launch} {e : Env} {R : Room} {s : State} {m : MethodId} {args : Array Value} {below : List Frame} {meth : Method} {c : Code} {base : Nat} {D : va_G} {ad : Nat → Nat} {ca : Nat → ClassId} {cells slots : Nat} {Q : State → Prop} {E : Nat × (Nat → Int32)} {M : sm_MI} {v : Value} {w1 : sm_Mem} (hO : sm_OK p l e R s m args below meth c base D ad ca cells slots Q E M v w1) {H : Heap} {locs : List Loc} {ls : Array Slot} {L : List (Option Value)} {w w2 : sm_Mem} {v2 : Value} {M2 : sm_MI} {o2 : sm_R} (hP : va_P D vwCl (sm_conc ad ca w) H) (hS : va_S (fun q => base ≤ q) s.heap H locs) (hl : lv_has ls M.2.2.1 (sm_loc ad 0 L)) {pc idx n : Nat} {as rest : List Value} (hd : decode M.2.1 pc = .ok (.invokestatic idx, 3)) (hlk : sm_ML M.1.cls idx M2.1) (hF : sm_MF M2 n) (hV : sm_MFS M2) (hk : M2.2.2.2.2 + 1 ≤ M.2.2.2.2) (hnl : M2.2.2.1 ≤ 21) (hn : as.length = n) (hcat : (rest.map fun v => v.category).sum ≤ 8)
    (hM : sm_MC E M2 as w o2) (ho2 : o2 = some (v2, w2)) : va_Run p l e R s m args below meth c H locs cells slots 0 0 (F0 m pc ls ((as.reverse ++ rest).map (sm_tr ad))) (rest.map (sm_tr ad)) (sm_Q base D ad ca v2 w2 (as.map (sm_tr ad)).toArray) (fun q => base ≤ q) := by
  have hM2 := hM v2 w2 ho2 l base D ad ca
  have hcw := sm_goodIn hF.1
  obtain ⟨hx, hb, hml, hown, hts, hZ, hK, hD, hba, hR, hST, -⟩ := id hO
  have hfix : CallFix p m c M.2.1 M.2.2.1 s args sm_good M.1.cls := ⟨hx, hb, hml, hown, hts⟩
  have hws : ∀ z ∈ sm_ws M2, ∀ (a2 : Array Value) (U : State), s.WarmedH U.vm → z.before a2 U = true := pay_in hts hcw
  have hpre : PreS s H (sm_Pc E base D ad ca w as) (as.map (sm_tr ad)) := ⟨sm_blind sm_nest_on, fun U hU hW => sm_pre hO hP hS as U hU hW⟩
  have hst : ((as.reverse ++ rest).map (sm_tr ad)) = (as.map (sm_tr ad)).reverse ++ rest.map (sm_tr ad) := by
    rw [List.map_append, List.map_reverse]
  have hct : ((rest.map (sm_tr ad)).map fun v => v.category).sum ≤ 8 := by
    rw [List.map_map]
    have e : (fun v : Value => v.category) ∘ sm_tr ad = fun v => v.category := by
      funext z
      exact sm_tr_cat ad z
    rw [e]
    exact hcat
  have hroom : (sm_rm M2.2.2.2.2).frames + 1 ≤ R.frames ∧ 8 + (M2.2.2.1 + 11) + (sm_rm M2.2.2.2.2).locals ≤ R.locals := by
    have h1 := hR.1
    have h2 := hR.2.1
    refine ⟨?_, ?_⟩
    · show M2.2.2.2.2 + 1 ≤ _
      omega
    · show 8 + (M2.2.2.1 + 11) + 40 * M2.2.2.2.2 ≤ _
      omega
  have hgo := sm_wgood hts (z := Cond.code M2.1 M2.2.1 M2.2.2.1 M2.2.2.2.1) hF.1 rfl
  have hini := sm_wgood hts (z := Cond.initialized M2.1.cls) hF.2.1 rfl
  have hsta := sm_wgood hts (z := Cond.static M2.1) hV rfl
  have hlen : (as.map (sm_tr ad)).length = n := by rw [List.length_map]; exact hn
  rcases hlk with hlk | ⟨host, hlk⟩
  · exact va_runS (bytes := M2.2.1) (maxL := M2.2.2.1) (ret := M2.2.2.2.1) (n := n) (index := idx) (As := as.map (sm_tr ad)) hfix hM2 ⟨⟨rfl, rfl, hroom.1, hroom.2, hws, List.mem_cons_self, hgo, hini, hF.2.2.1, sm_dlen hF.2.2.2, sm_wgood hts hlk rfl⟩, hsta⟩ hpre rfl hlen hl.1 hst (lv_room hct) hd ⟨hR.2.2.1, hR.2.2.2⟩
  · exact va_runSN (bytes := M2.2.1) (maxL := M2.2.2.1) (ret := M2.2.2.2.1) (n := n) (index := idx) (As := as.map (sm_tr ad)) hfix hM2 ⟨⟨⟨rfl, rfl, hroom.1, hroom.2, hws, List.mem_cons_self⟩, hgo, hini, hF.2.2.1, sm_dlen hF.2.2.2, va_Nw.use rfl (hZ _ hlk rfl)⟩, hsta, trivial⟩ hpre rfl hlen hl.1 hst (lv_room hct) hd ⟨hR.2.2.1, hR.2.2.2⟩
theorem sm_isO_spec {k ci : Nat} (h : sm_isO k ci = true) : ∃ fs, sm_shape[k]? = some (.inl (ci, fs)) := by
  unfold sm_isO at h
  split at h
  · rename_i cj fs hs
    have e : cj = ci := by simpa using h
    subst e
    exact ⟨fs, hs⟩
  · cases h

set_option maxHeartbeats 1000000 in
theorem sm_cvI {E : Nat × (Nat → Int32)} {M : sm_MI} {pc pc1 : Nat} {L : List (Option Value)} {S : List Value} {w : sm_Mem} {idx n : Nat} {k : Nat} {M2 : sm_MI} {o2 : sm_R} {f : Int32 → sm_Mem → sm_R} (as rest : List Value) (hst : S = as.reverse ++ .ref k :: rest) (hd : sm_D M.2.1 pc 3 pc1 (.invokevirtual idx)) (hlk : sm_ML M.1.cls idx M2.1) (hF : sm_MF M2 n) (hV : sm_MFV M2) (hk : M2.2.2.2.2 + 1 ≤ M.2.2.2.2) (hnl : Nat.ble M2.2.2.1 21 = true) (ci : Nat) (hs : sm_isO k ci = true) {T : u_T} {N : Nat} (hc : vwCl[ci]? = some (M2.1.cls, T, N)) (hn : as.length = n) (hcat : Nat.ble (rest.map fun v => v.category).sum 8 = true) (hM : sm_MC E M2 (.ref k :: as) w o2) (kk : ∀ x w2, sm_Sim E M pc1 L (.int x :: rest) w2 (f x w2)) : sm_Sim E M pc L S w (sm_cI o2 f) := by
  intro v w1 ho p l e R s m args below meth c base D ad ca cells slots Q hO H locs ls hP hS hl
  subst hst
  obtain ⟨hd, rfl⟩ := hd
  have hcat := Nat.le_of_ble_eq_true hcat
  have hnl := Nat.le_of_ble_eq_true hnl
  obtain ⟨fs, hs2⟩ := sm_isO_spec hs
  unfold sm_cI at ho
  split at ho
  · rename_i x w2
    refine va_calli (S := Unit) (a := ((.ref k :: as : List Value).map (sm_tr ad)).toArray) (post := fun r (_ : Unit) => r = x) (B := sm_B D ad ca w2) (A1 := fun q => base ≤ q) (sm_runV hO hP hS hl (as := as) (rest := rest) hd hlk hF hV hk hnl hs2 hc hn hcat hM rfl) hS (fun q _ h => h) (fun q h => h) (fun r u t H1 locs1 ht _ hr hB _ _ hS1 => ?_)
    subst hr
    exact kk _ w2 v w1 ho _ _ _ _ _ _ _ _ _ _ _ _ _ _ _ _ _ hO H1 locs1 ls (by rw [← ht]; exact hB) hS1 hl
  · cases ho

set_option maxHeartbeats 1000000 in
theorem sm_cvL {E : Nat × (Nat → Int32)} {M : sm_MI} {pc pc1 : Nat} {L : List (Option Value)} {S : List Value} {w : sm_Mem} {idx n : Nat} {k : Nat} {M2 : sm_MI} {o2 : sm_R} {f : Int64 → sm_Mem → sm_R} (as rest : List Value) (hst : S = as.reverse ++ .ref k :: rest) (hd : sm_D M.2.1 pc 3 pc1 (.invokevirtual idx)) (hlk : sm_ML M.1.cls idx M2.1) (hF : sm_MF M2 n) (hV : sm_MFV M2) (hk : M2.2.2.2.2 + 1 ≤ M.2.2.2.2) (hnl : Nat.ble M2.2.2.1 21 = true) (ci : Nat) (hs : sm_isO k ci = true) {T : u_T} {N : Nat} (hc : vwCl[ci]? = some (M2.1.cls, T, N)) (hn : as.length = n) (hcat : Nat.ble (rest.map fun v => v.category).sum 8 = true) (hM : sm_MC E M2 (.ref k :: as) w o2) (kk : ∀ x w2, sm_Sim E M pc1 L (.long x :: rest) w2 (f x w2)) : sm_Sim E M pc L S w (sm_cL o2 f) := by
  intro v w1 ho p l e R s m args below meth c base D ad ca cells slots Q hO H locs ls hP hS hl
  subst hst
  obtain ⟨hd, rfl⟩ := hd
  have hcat := Nat.le_of_ble_eq_true hcat
  have hnl := Nat.le_of_ble_eq_true hnl
  obtain ⟨fs, hs2⟩ := sm_isO_spec hs
  unfold sm_cL at ho
  split at ho
  · rename_i x w2
    refine va_calll (S := Unit) (a := ((.ref k :: as : List Value).map (sm_tr ad)).toArray) (post := fun r (_ : Unit) => r = x) (B := sm_B D ad ca w2) (A1 := fun q => base ≤ q) (sm_runV hO hP hS hl (as := as) (rest := rest) hd hlk hF hV hk hnl hs2 hc hn hcat hM rfl) hS (fun q _ h => h) (fun q h => h) (fun r u t H1 locs1 ht _ hr hB _ _ hS1 => ?_)
    subst hr
    exact kk _ w2 v w1 ho _ _ _ _ _ _ _ _ _ _ _ _ _ _ _ _ _ hO H1 locs1 ls (by rw [← ht]; exact hB) hS1 hl
  · cases ho

set_option maxHeartbeats 1000000 in
theorem sm_cvV {E : Nat × (Nat → Int32)} {M : sm_MI} {pc pc1 : Nat} {L : List (Option Value)} {S : List Value} {w : sm_Mem} {idx n : Nat} {k : Nat} {M2 : sm_MI} {o2 : sm_R} {f : sm_Mem → sm_R} (as rest : List Value) (hst : S = as.reverse ++ .ref k :: rest) (hd : sm_D M.2.1 pc 3 pc1 (.invokevirtual idx)) (hlk : sm_ML M.1.cls idx M2.1) (hF : sm_MF M2 n) (hV : sm_MFV M2) (hk : M2.2.2.2.2 + 1 ≤ M.2.2.2.2) (hnl : Nat.ble M2.2.2.1 21 = true) (ci : Nat) (hs : sm_isO k ci = true) {T : u_T} {N : Nat} (hc : vwCl[ci]? = some (M2.1.cls, T, N)) (hn : as.length = n) (hcat : Nat.ble (rest.map fun v => v.category).sum 8 = true) (hM : sm_MC E M2 (.ref k :: as) w o2) (kk : ∀ w2, sm_Sim E M pc1 L rest w2 (f w2)) : sm_Sim E M pc L S w (sm_cV o2 f) := by
  intro v w1 ho p l e R s m args below meth c base D ad ca cells slots Q hO H locs ls hP hS hl
  subst hst
  obtain ⟨hd, rfl⟩ := hd
  have hcat := Nat.le_of_ble_eq_true hcat
  have hnl := Nat.le_of_ble_eq_true hnl
  obtain ⟨fs, hs2⟩ := sm_isO_spec hs
  unfold sm_cV at ho
  split at ho
  · rename_i w2
    exact va_callv (S := Unit) (a := ((.ref k :: as : List Value).map (sm_tr ad)).toArray) (post := fun (_ : Unit) => True) (B := sm_B D ad ca w2) (A1 := fun q => base ≤ q) (sm_runV hO hP hS hl (as := as) (rest := rest) hd hlk hF hV hk hnl hs2 hc hn hcat hM rfl) hS (fun q _ h => h) (fun q h => h) (fun u t H1 locs1 ht _ _ hB _ _ hS1 => kk w2 v w1 ho _ _ _ _ _ _ _ _ _ _ _ _ _ _ _ _ _ hO H1 locs1 ls (by rw [← ht]; exact hB) hS1 hl)
  · cases ho

set_option maxHeartbeats 1000000 in
theorem sm_csI {E : Nat × (Nat → Int32)} {M : sm_MI} {pc pc1 : Nat} {L : List (Option Value)} {S : List Value} {w : sm_Mem} {idx n : Nat} {M2 : sm_MI} {o2 : sm_R} {f : Int32 → sm_Mem → sm_R} (as rest : List Value) (hst : S = as.reverse ++ rest) (hd : sm_D M.2.1 pc 3 pc1 (.invokestatic idx)) (hlk : sm_ML M.1.cls idx M2.1) (hF : sm_MF M2 n) (hV : sm_MFS M2) (hk : M2.2.2.2.2 + 1 ≤ M.2.2.2.2) (hnl : Nat.ble M2.2.2.1 21 = true) (hn : as.length = n) (hcat : Nat.ble (rest.map fun v => v.category).sum 8 = true) (hM : sm_MC E M2 (as) w o2) (kk : ∀ x w2, sm_Sim E M pc1 L (.int x :: rest) w2 (f x w2)) : sm_Sim E M pc L S w (sm_cI o2 f) := by
  intro v w1 ho p l e R s m args below meth c base D ad ca cells slots Q hO H locs ls hP hS hl
  subst hst
  obtain ⟨hd, rfl⟩ := hd
  have hcat := Nat.le_of_ble_eq_true hcat
  have hnl := Nat.le_of_ble_eq_true hnl
  unfold sm_cI at ho
  split at ho
  · rename_i x w2
    refine va_calli (S := Unit) (a := ((as : List Value).map (sm_tr ad)).toArray) (post := fun r (_ : Unit) => r = x) (B := sm_B D ad ca w2) (A1 := fun q => base ≤ q) (sm_runS hO hP hS hl (as := as) (rest := rest) hd hlk hF hV hk hnl hn hcat hM rfl) hS (fun q _ h => h) (fun q h => h) (fun r u t H1 locs1 ht _ hr hB _ _ hS1 => ?_)
    subst hr
    exact kk _ w2 v w1 ho _ _ _ _ _ _ _ _ _ _ _ _ _ _ _ _ _ hO H1 locs1 ls (by rw [← ht]; exact hB) hS1 hl
  · cases ho

set_option maxHeartbeats 1000000 in
theorem sm_csL {E : Nat × (Nat → Int32)} {M : sm_MI} {pc pc1 : Nat} {L : List (Option Value)} {S : List Value} {w : sm_Mem} {idx n : Nat} {M2 : sm_MI} {o2 : sm_R} {f : Int64 → sm_Mem → sm_R} (as rest : List Value) (hst : S = as.reverse ++ rest) (hd : sm_D M.2.1 pc 3 pc1 (.invokestatic idx)) (hlk : sm_ML M.1.cls idx M2.1) (hF : sm_MF M2 n) (hV : sm_MFS M2) (hk : M2.2.2.2.2 + 1 ≤ M.2.2.2.2) (hnl : Nat.ble M2.2.2.1 21 = true) (hn : as.length = n) (hcat : Nat.ble (rest.map fun v => v.category).sum 8 = true) (hM : sm_MC E M2 (as) w o2) (kk : ∀ x w2, sm_Sim E M pc1 L (.long x :: rest) w2 (f x w2)) : sm_Sim E M pc L S w (sm_cL o2 f) := by
  intro v w1 ho p l e R s m args below meth c base D ad ca cells slots Q hO H locs ls hP hS hl
  subst hst
  obtain ⟨hd, rfl⟩ := hd
  have hcat := Nat.le_of_ble_eq_true hcat
  have hnl := Nat.le_of_ble_eq_true hnl
  unfold sm_cL at ho
  split at ho
  · rename_i x w2
    refine va_calll (S := Unit) (a := ((as : List Value).map (sm_tr ad)).toArray) (post := fun r (_ : Unit) => r = x) (B := sm_B D ad ca w2) (A1 := fun q => base ≤ q) (sm_runS hO hP hS hl (as := as) (rest := rest) hd hlk hF hV hk hnl hn hcat hM rfl) hS (fun q _ h => h) (fun q h => h) (fun r u t H1 locs1 ht _ hr hB _ _ hS1 => ?_)
    subst hr
    exact kk _ w2 v w1 ho _ _ _ _ _ _ _ _ _ _ _ _ _ _ _ _ _ hO H1 locs1 ls (by rw [← ht]; exact hB) hS1 hl
  · cases ho

set_option maxHeartbeats 1000000 in
theorem sm_csV {E : Nat × (Nat → Int32)} {M : sm_MI} {pc pc1 : Nat} {L : List (Option Value)} {S : List Value} {w : sm_Mem} {idx n : Nat} {M2 : sm_MI} {o2 : sm_R} {f : sm_Mem → sm_R} (as rest : List Value) (hst : S = as.reverse ++ rest) (hd : sm_D M.2.1 pc 3 pc1 (.invokestatic idx)) (hlk : sm_ML M.1.cls idx M2.1) (hF : sm_MF M2 n) (hV : sm_MFS M2) (hk : M2.2.2.2.2 + 1 ≤ M.2.2.2.2) (hnl : Nat.ble M2.2.2.1 21 = true) (hn : as.length = n) (hcat : Nat.ble (rest.map fun v => v.category).sum 8 = true) (hM : sm_MC E M2 (as) w o2) (kk : ∀ w2, sm_Sim E M pc1 L rest w2 (f w2)) : sm_Sim E M pc L S w (sm_cV o2 f) := by
  intro v w1 ho p l e R s m args below meth c base D ad ca cells slots Q hO H locs ls hP hS hl
  subst hst
  obtain ⟨hd, rfl⟩ := hd
  have hcat := Nat.le_of_ble_eq_true hcat
  have hnl := Nat.le_of_ble_eq_true hnl
  unfold sm_cV at ho
  split at ho
  · rename_i w2
    exact va_callv (S := Unit) (a := ((as : List Value).map (sm_tr ad)).toArray) (post := fun (_ : Unit) => True) (B := sm_B D ad ca w2) (A1 := fun q => base ≤ q) (sm_runS hO hP hS hl (as := as) (rest := rest) hd hlk hF hV hk hnl hn hcat hM rfl) hS (fun q _ h => h) (fun q h => h) (fun u t H1 locs1 ht _ _ hB _ _ hS1 => kk w2 v w1 ho _ _ _ _ _ _ _ _ _ _ _ _ _ _ _ _ _ hO H1 locs1 ls (by rw [← ht]; exact hB) hS1 hl)
  · cases ho

theorem sm_dvI {E : Nat × (Nat → Int32)} {M : sm_MI} {pc pc1 : Nat} {L : List (Option Value)} {S : List Value} {w : sm_Mem} {idx n : Nat} {k : Nat} {M2 : sm_MI} {o2 : sm_R} {f : Int32 → sm_Mem → sm_R} (as rest : List Value) (hst : S = as.reverse ++ .ref k :: rest) (hd : sm_D M.2.1 pc 3 pc1 (.invokevirtual idx)) (hlk : sm_ML M.1.cls idx M2.1) (hF : sm_MF M2 n) (hV : sm_MFV M2) (hk : M2.2.2.2.2 + 1 ≤ M.2.2.2.2) (hnl : Nat.ble M2.2.2.1 21 = true) (ci : Nat) {T : u_T} {N : Nat} (hc : vwCl[ci]? = some (M2.1.cls, T, N)) (hn : as.length = n) (hcat : Nat.ble (rest.map fun v => v.category).sum 8 = true) (hM : sm_MC E M2 (.ref k :: as) w o2) (kk : ∀ x w2, sm_Sim E M pc1 L (.int x :: rest) w2 (f x w2)) : sm_Sim E M pc L S w (sm_cI (sm_rc k ci o2) f) := by
  unfold sm_rc
  split
  · rename_i h
    exact sm_cvI as rest hst hd hlk hF hV hk hnl ci h hc hn hcat hM kk
  · intro v w1 ho
    cases ho

theorem sm_dvL {E : Nat × (Nat → Int32)} {M : sm_MI} {pc pc1 : Nat} {L : List (Option Value)} {S : List Value} {w : sm_Mem} {idx n : Nat} {k : Nat} {M2 : sm_MI} {o2 : sm_R} {f : Int64 → sm_Mem → sm_R} (as rest : List Value) (hst : S = as.reverse ++ .ref k :: rest) (hd : sm_D M.2.1 pc 3 pc1 (.invokevirtual idx)) (hlk : sm_ML M.1.cls idx M2.1) (hF : sm_MF M2 n) (hV : sm_MFV M2) (hk : M2.2.2.2.2 + 1 ≤ M.2.2.2.2) (hnl : Nat.ble M2.2.2.1 21 = true) (ci : Nat) {T : u_T} {N : Nat} (hc : vwCl[ci]? = some (M2.1.cls, T, N)) (hn : as.length = n) (hcat : Nat.ble (rest.map fun v => v.category).sum 8 = true) (hM : sm_MC E M2 (.ref k :: as) w o2) (kk : ∀ x w2, sm_Sim E M pc1 L (.long x :: rest) w2 (f x w2)) : sm_Sim E M pc L S w (sm_cL (sm_rc k ci o2) f) := by
  unfold sm_rc
  split
  · rename_i h
    exact sm_cvL as rest hst hd hlk hF hV hk hnl ci h hc hn hcat hM kk
  · intro v w1 ho
    cases ho

theorem sm_dvV {E : Nat × (Nat → Int32)} {M : sm_MI} {pc pc1 : Nat} {L : List (Option Value)} {S : List Value} {w : sm_Mem} {idx n : Nat} {k : Nat} {M2 : sm_MI} {o2 : sm_R} {f : sm_Mem → sm_R} (as rest : List Value) (hst : S = as.reverse ++ .ref k :: rest) (hd : sm_D M.2.1 pc 3 pc1 (.invokevirtual idx)) (hlk : sm_ML M.1.cls idx M2.1) (hF : sm_MF M2 n) (hV : sm_MFV M2) (hk : M2.2.2.2.2 + 1 ≤ M.2.2.2.2) (hnl : Nat.ble M2.2.2.1 21 = true) (ci : Nat) {T : u_T} {N : Nat} (hc : vwCl[ci]? = some (M2.1.cls, T, N)) (hn : as.length = n) (hcat : Nat.ble (rest.map fun v => v.category).sum 8 = true) (hM : sm_MC E M2 (.ref k :: as) w o2) (kk : ∀ w2, sm_Sim E M pc1 L rest w2 (f w2)) : sm_Sim E M pc L S w (sm_cV (sm_rc k ci o2) f) := by
  unfold sm_rc
  split
  · rename_i h
    exact sm_cvV as rest hst hd hlk hF hV hk hnl ci h hc hn hcat hM kk
  · intro v w1 ho
    cases ho

/-! Math.max, min, abs -/
theorem sm_catr {ad : Nat → Nat} {st : List Value} {n : Nat} (h : Nat.ble (st.map fun v => v.category).sum n = true) : ((st.map (sm_tr ad)).map fun v => v.category).sum ≤ n := by
  rw [List.map_map]
  have e : (fun v : Value => v.category) ∘ sm_tr ad = fun v => v.category := by
    funext z
    exact sm_tr_cat ad z
  rw [e]
  exact Nat.le_of_ble_eq_true h

theorem sm_mmax {E : Nat × (Nat → Int32)} {M : sm_MI} {pc pc1 : Nat} {L : List (Option Value)} {st : List Value} {w : sm_Mem} {o : sm_R} {x y : Int32} {idx : Nat} (hd : sm_D M.2.1 pc 3 pc1 (.invokestatic idx)) (hlk : Cond.methodLink M.1.cls idx Lib.Math.max.name ∈ lw_tbl) (h1 : Cond.static Lib.Math.max.name ∈ lw_tbl) (h2 : Cond.initialized "java/lang/Math" ∈ lw_tbl) (h3 : Cond.code Lib.Math.max.name Lib.Math.max.code 2 (some .int) ∈ lw_tbl) (hk : 1 ≤ M.2.2.2.2) (hcat : Nat.ble (st.map fun v => v.category).sum 8 = true) (k : sm_Sim E M pc1 L (.int (if x < y then y else x) :: st) w o) : sm_Sim E M pc L (.int y :: .int x :: st) w o := by
  intro v w1 ho p l e R s m args below meth c base D ad ca cells slots Q hO H locs ls hP hS hl
  obtain ⟨hd, rfl⟩ := hd
  have hts := hO.2.2.2.2.1
  have hR := hO.2.2.2.2.2.2.2.2.2.1
  have h9 := sm_catr (ad := ad) hcat
  exact va_mmax hO.1 hO.2.1 (hO.2.2.1.trans hl.1.symm) hO.2.2.2.1 (sm_wgood hts hlk rfl) (sm_wgood hts h1 rfl) (sm_wgood hts h2 rfl) (sm_wgood hts h3 rfl) (by omega) (by omega) hR.2.2.1 hR.2.2.2 hd (k v w1 ho _ _ _ _ _ _ _ _ _ _ _ _ _ _ _ _ _ hO H locs ls hP hS hl)
theorem sm_mmin {E : Nat × (Nat → Int32)} {M : sm_MI} {pc pc1 : Nat} {L : List (Option Value)} {st : List Value} {w : sm_Mem} {o : sm_R} {x y : Int32} {idx : Nat} (hd : sm_D M.2.1 pc 3 pc1 (.invokestatic idx)) (hlk : Cond.methodLink M.1.cls idx Lib.Math.min.name ∈ lw_tbl) (h1 : Cond.static Lib.Math.min.name ∈ lw_tbl) (h2 : Cond.initialized "java/lang/Math" ∈ lw_tbl) (h3 : Cond.code Lib.Math.min.name Lib.Math.min.code 2 (some .int) ∈ lw_tbl) (hk : 1 ≤ M.2.2.2.2) (hcat : Nat.ble (st.map fun v => v.category).sum 8 = true) (k : sm_Sim E M pc1 L (.int (if y < x then y else x) :: st) w o) : sm_Sim E M pc L (.int y :: .int x :: st) w o := by
  intro v w1 ho p l e R s m args below meth c base D ad ca cells slots Q hO H locs ls hP hS hl
  obtain ⟨hd, rfl⟩ := hd
  have hts := hO.2.2.2.2.1
  have hR := hO.2.2.2.2.2.2.2.2.2.1
  have h9 := sm_catr (ad := ad) hcat
  exact va_mmin hO.1 hO.2.1 (hO.2.2.1.trans hl.1.symm) hO.2.2.2.1 (sm_wgood hts hlk rfl) (sm_wgood hts h1 rfl) (sm_wgood hts h2 rfl) (sm_wgood hts h3 rfl) (by omega) (by omega) hR.2.2.1 hR.2.2.2 hd (k v w1 ho _ _ _ _ _ _ _ _ _ _ _ _ _ _ _ _ _ hO H locs ls hP hS hl)
theorem sm_mabs {E : Nat × (Nat → Int32)} {M : sm_MI} {pc pc1 : Nat} {L : List (Option Value)} {st : List Value} {w : sm_Mem} {o : sm_R} {x : Int32} {idx : Nat} (hd : sm_D M.2.1 pc 3 pc1 (.invokestatic idx)) (hlk : Cond.methodLink M.1.cls idx Lib.Math.abs.name ∈ lw_tbl) (h1 : Cond.static Lib.Math.abs.name ∈ lw_tbl) (h2 : Cond.initialized "java/lang/Math" ∈ lw_tbl) (h3 : Cond.code Lib.Math.abs.name Lib.Math.abs.code 1 (some .int) ∈ lw_tbl) (hk : 1 ≤ M.2.2.2.2) (hcat : Nat.ble (st.map fun v => v.category).sum 8 = true) (k : sm_Sim E M pc1 L (.int (if 0 ≤ x then x else 0 - x) :: st) w o) : sm_Sim E M pc L (.int x :: st) w o := by
  intro v w1 ho p l e R s m args below meth c base D ad ca cells slots Q hO H locs ls hP hS hl
  obtain ⟨hd, rfl⟩ := hd
  have hts := hO.2.2.2.2.1
  have hR := hO.2.2.2.2.2.2.2.2.2.1
  have h9 := sm_catr (ad := ad) hcat
  exact va_mabs hO.1 hO.2.1 (hO.2.2.1.trans hl.1.symm) hO.2.2.2.1 (sm_wgood hts hlk rfl) (sm_wgood hts h1 rfl) (sm_wgood hts h2 rfl) (sm_wgood hts h3 rfl) (by omega) (by omega) hR.2.2.1 hR.2.2.2 hd (k v w1 ho _ _ _ _ _ _ _ _ _ _ _ _ _ _ _ _ _ hO H locs ls hP hS hl)

theorem sm_exN : ∃ n : Nat, n = 1000000 := ⟨_, rfl⟩
/-- the fuel of a loop: more than any loop here takes -/
noncomputable def sm_N : Nat := Classical.choose sm_exN
theorem sm_N_eq : sm_N = 1000000 := Classical.choose_spec sm_exN
theorem sm_kle {a b n : Nat} (h : Nat.ble a b = true) : a + 1 ≤ b + n + 1 := by
  have := Nat.le_of_ble_eq_true h
  omega
