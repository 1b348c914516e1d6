/-! pure: memory read and written; objects of the shape -/
theorem sm_wI_ne {w : sm_Mem} {k j a : Nat} {x : Int32} (h : a ≠ k) : (sm_wI w k j x).1 a = w.1 a := by
  funext b
  exact if_neg (fun q => h q.1)
theorem sm_wI_nj {w : sm_Mem} {k j a b : Nat} {x : Int32} (h : b ≠ j) : (sm_wI w k j x).1 a b = w.1 a b := if_neg (fun q => h q.2)
theorem sm_wI_eq {w : sm_Mem} {k j : Nat} {x : Int32} : (sm_wI w k j x).1 k j = x := if_pos ⟨rfl, rfl⟩
theorem sm_wI_at {w : sm_Mem} {k j a b : Nat} {x : Int32} : (sm_wI w k j x).1 a b = if a = k ∧ b = j then x else w.1 a b := rfl
theorem sm_wI_2 {w : sm_Mem} {k j : Nat} {x : Int32} : (sm_wI w k j x).2 = w.2 := rfl
theorem sm_wL_1 {w : sm_Mem} {k j : Nat} {x : Int64} : (sm_wL w k j x).1 = w.1 := rfl
theorem sm_wL_at {w : sm_Mem} {k j a b : Nat} {x : Int64} : (sm_wL w k j x).2 a b = if a = k ∧ b = j then x else w.2 a b := rfl
theorem sm_wA_ne {w : sm_Mem} {k a : Nat} {f : Nat → Int32} (h : a ≠ k) : (sm_wA w k f).1 a = w.1 a := by
  funext b
  exact if_neg h
theorem sm_wA_eq {w : sm_Mem} {k : Nat} {f : Nat → Int32} : (sm_wA w k f).1 k = f := by
  funext b
  exact if_pos rfl
theorem sm_wA_2 {w : sm_Mem} {k : Nat} {f : Nat → Int32} : (sm_wA w k f).2 = w.2 := rfl
theorem sm_wA_wI {w : sm_Mem} {k j : Nat} {x : Int32} {f : Nat → Int32} : sm_wA (sm_wI w k j x) k f = sm_wA w k f := by
  refine Prod.ext ?_ rfl
  funext a b
  by_cases h : a = k
  · simp [sm_wA, h]
  · simp [sm_wA, sm_wI, h]
theorem sm_wA_wA {w : sm_Mem} {k : Nat} {f g : Nat → Int32} : sm_wA (sm_wA w k g) k f = sm_wA w k f := by
  refine Prod.ext ?_ rfl
  funext a b
  by_cases h : a = k
  · simp [sm_wA, h]
  · simp [sm_wA, h]
theorem sm_wA_self {w : sm_Mem} {k : Nat} : sm_wA w k (w.1 k) = w := by
  refine Prod.ext ?_ rfl
  funext a b
  by_cases h : a = k
  · simp [sm_wA, h]
  · simp [sm_wA, h]
theorem sm_wI_wA {w : sm_Mem} {k j : Nat} {x : Int32} : sm_wI w k j x = sm_wA w k (fun b => if b = j then x else w.1 k b) := by
  refine Prod.ext ?_ rfl
  funext a b
  by_cases h : a = k
  · subst h
    simp [sm_wA, sm_wI]
  · simp [sm_wA, sm_wI, h]
theorem sm_rd_u {w : sm_Mem} {k n i : Nat} (hi : i < n) (hn : n ≤ 2147483648) : sm_rd w k n (u32 i) = some (w.1 k i) := by
  have h : i < 2147483648 := by omega
  unfold sm_rd
  rw [if_neg, u32_idx h]
  rintro (h1 | h1)
  · have := (u32_nneg h).mp h1
    exact this
  · rw [u32_idx h] at h1
    omega
theorem sm_wr_u {w : sm_Mem} {k n i : Nat} {x : Int32} (hi : i < n) (hn : n ≤ 2147483648) : sm_wr w k n (u32 i) x = some (sm_wI w k i x) := by
  have h : i < 2147483648 := by omega
  unfold sm_wr
  rw [if_neg, u32_idx h]
  rintro (h1 | h1)
  · have := (u32_nneg h).mp h1
    exact this
  · rw [u32_idx h] at h1
    omega
theorem sm_sc_u {E : Nat × (Nat → Int32)} {i : Nat} (hi : i < E.1) (hn : E.1 ≤ 2147483648) : sm_sc E (u32 i) = some (E.2 i) := by
  have h : i < 2147483648 := by omega
  unfold sm_sc
  rw [if_neg, u32_idx h]
  rintro (h1 | h1)
  · have := (u32_nneg h).mp h1
    exact this
  · rw [u32_idx h] at h1
    omega
theorem sm_kd_u {i : Nat} (hi : i < 6) : sm_kd (u32 i) = some (sm_kl i) := by
  have h : i < 2147483648 := by omega
  unfold sm_kd
  rw [if_neg, u32_idx h]
  rintro (h1 | h1)
  · have := (u32_nneg h).mp h1
    exact this
  · rw [u32_idx h] at h1
    omega
theorem sm_sw_u {i : Nat} {lo : Nat} {os : List sm_R} {d : sm_R} (h : i < 2147483648) : sm_sw (u32 i) (lo : Int) os d = if i < lo then d else os.getD (i - lo) d := by
  unfold sm_sw
  rw [u32_toInt h]
  by_cases h1 : i < lo
  · rw [if_pos h1, if_pos (Or.inl (by omega))]
  · rw [if_neg h1]
    by_cases h2 : lo + os.length ≤ i
    · rw [if_pos (Or.inr (by omega))]
      rw [List.getD_eq_getElem?_getD, List.getElem?_eq_none (by omega)]
      rfl
    · rw [if_neg (by omega)]
      have e : ((i : Int) - (lo : Int)).toNat = i - lo := by omega
      rw [e]
theorem sm_cI_some {x : Int32} {w : sm_Mem} {f : Int32 → sm_Mem → sm_R} : sm_cI (some (.int x, w)) f = f x w := rfl
theorem sm_cL_some {x : Int64} {w : sm_Mem} {f : Int64 → sm_Mem → sm_R} : sm_cL (some (.long x, w)) f = f x w := rfl
theorem sm_cV_some {w : sm_Mem} {f : sm_Mem → sm_R} : sm_cV (some (.null, w)) f = f w := rfl
theorem sm_bind_some {α : Type} {a : α} {f : α → sm_R} : Option.bind (some a) f = f a := rfl
theorem sm_let_eq {α : Type} {a : α} {f : α → sm_R} : sm_let a f = f a := rfl
/-- a row's object at cell k, its places (most of them) at the next -/
def isRow (k most : Nat) : Prop := sm_fk k 2 0 2 = some (k + 1) ∧ (∃ q, sm_fk k 2 1 0 = some q) ∧ sm_isO k 2 = true ∧ sm_shape[k + 1]? = some (.inr (.inl most)) ∧ most ≤ 60
theorem isRow_row {r : Nat} (h : r < 6) : isRow (2 + 2 * r) 40 := by
  rcases (show r = 0 ∨ r = 1 ∨ r = 2 ∨ r = 3 ∨ r = 4 ∨ r = 5 by omega) with rfl | rfl | rfl | rfl | rfl | rfl <;> exact ⟨rfl, ⟨_, rfl⟩, rfl, rfl, by decide⟩
theorem isRow_text {r : Nat} (h : r < 4) : isRow (15 + 2 * r) 60 := by
  rcases (show r = 0 ∨ r = 1 ∨ r = 2 ∨ r = 3 by omega) with rfl | rfl | rfl | rfl <;> exact ⟨rfl, ⟨_, rfl⟩, rfl, rfl, by decide⟩
theorem rr_row {r : Nat} (h : r < 6) : sm_rr 1 (u32 r) = some (2 + 2 * r) := by
  rcases (show r = 0 ∨ r = 1 ∨ r = 2 ∨ r = 3 ∨ r = 4 ∨ r = 5 by omega) with rfl | rfl | rfl | rfl | rfl | rfl <;> rfl
theorem rr_text {r : Nat} (h : r < 4) : sm_rr 14 (u32 r) = some (15 + 2 * r) := by
  rcases (show r = 0 ∨ r = 1 ∨ r = 2 ∨ r = 3 by omega) with rfl | rfl | rfl | rfl <;> rfl
theorem rr_kept {r : Nat} (h : r < 3) : sm_rr 23 (u32 r) = some (24 + 4 * r) := by
  rcases (show r = 0 ∨ r = 1 ∨ r = 2 by omega) with rfl | rfl | rfl <;> rfl
theorem isRow.gI {k most : Nat} {w : sm_Mem} (h : isRow k most) : sm_gI w k 2 1 = some (w.1 k 1) := by
  obtain ⟨-, ⟨q, h2⟩, -⟩ := h
  unfold sm_gI
  rw [h2]
theorem isRow.pI {k most : Nat} {w : sm_Mem} {x : Int32} (h : isRow k most) : sm_pI w k 2 1 x = some (sm_wI w k 1 x) := by
  obtain ⟨-, ⟨q, h2⟩, -⟩ := h
  unfold sm_pI
  rw [h2]
theorem isRow.fk {k most : Nat} (h : isRow k most) : sm_fk k 2 0 2 = some (k + 1) := h.1
theorem isRow.rc {k most : Nat} {o : sm_R} (h : isRow k most) : sm_rc k 2 o = o := by
  unfold sm_rc
  rw [h.2.2.1]
  rfl
theorem isRow.al {k most : Nat} (h : isRow k most) : sm_al (k + 1) = some (u32 most) := by
  unfold sm_al
  rw [h.2.2.2.1]
  rfl
theorem isRow.rds {k most : Nat} {w : sm_Mem} {i : Nat} (h : isRow k most) (hi : i < most) : sm_rds w (k + 1) (u32 i) = some (w.1 (k + 1) i) := by
  have h5 := h.2.2.2.2
  unfold sm_rds
  rw [h.2.2.2.1]
  exact sm_rd_u hi (by omega)
theorem isRow.wrs {k most : Nat} {w : sm_Mem} {i : Nat} {x : Int32} (h : isRow k most) (hi : i < most) : sm_wrs w (k + 1) (u32 i) x = some (sm_wI w (k + 1) i x) := by
  have h5 := h.2.2.2.2
  unfold sm_wrs
  rw [h.2.2.2.1]
  exact sm_wr_u hi (by omega)
/-- a Deeds' object at cell k, its three rows at the next ones -/
def isDeeds (k : Nat) : Prop := sm_fk k 0 0 2 = some (k + 1) ∧ sm_fk k 0 1 2 = some (k + 2) ∧ sm_fk k 0 2 2 = some (k + 3) ∧ (∃ q, sm_fk k 0 3 0 = some q) ∧ sm_isO k 0 = true ∧ sm_shape[k + 1]? = some (.inr (.inl 40)) ∧ sm_shape[k + 2]? = some (.inr (.inl 40)) ∧ sm_shape[k + 3]? = some (.inr (.inl 40))
theorem isDeeds_kept {r : Nat} (h : r < 3) : isDeeds (24 + 4 * r) := by
  rcases (show r = 0 ∨ r = 1 ∨ r = 2 by omega) with rfl | rfl | rfl <;> exact ⟨rfl, rfl, rfl, ⟨_, rfl⟩, rfl, rfl, rfl, rfl⟩
theorem isDeeds_home : isDeeds 45 := ⟨rfl, rfl, rfl, ⟨_, rfl⟩, rfl, rfl, rfl, rfl⟩
theorem isDeeds.gI {k : Nat} {w : sm_Mem} (h : isDeeds k) : sm_gI w k 0 3 = some (w.1 k 3) := by
  obtain ⟨-, -, -, ⟨q, h2⟩, -⟩ := h
  unfold sm_gI
  rw [h2]
theorem isDeeds.pI {k : Nat} {w : sm_Mem} {x : Int32} (h : isDeeds k) : sm_pI w k 0 3 x = some (sm_wI w k 3 x) := by
  obtain ⟨-, -, -, ⟨q, h2⟩, -⟩ := h
  unfold sm_pI
  rw [h2]
theorem isDeeds.rc {k : Nat} {o : sm_R} (h : isDeeds k) : sm_rc k 0 o = o := by
  unfold sm_rc
  rw [h.2.2.2.2.1]
  rfl
theorem isDeeds.rds {k j : Nat} {w : sm_Mem} {i : Nat} (h : isDeeds k) (hi : i < 40) (hj : j = k + 1 ∨ j = k + 2 ∨ j = k + 3) : sm_rds w j (u32 i) = some (w.1 j i) := by
  obtain ⟨-, -, -, -, -, h1, h2, h3⟩ := h
  unfold sm_rds
  rcases hj with rfl | rfl | rfl
  · rw [h1]; exact sm_rd_u hi (by omega)
  · rw [h2]; exact sm_rd_u hi (by omega)
  · rw [h3]; exact sm_rd_u hi (by omega)
theorem isDeeds.wrs {k j : Nat} {w : sm_Mem} {i : Nat} {x : Int32} (h : isDeeds k) (hi : i < 40) (hj : j = k + 1 ∨ j = k + 2 ∨ j = k + 3) : sm_wrs w j (u32 i) x = some (sm_wI w j i x) := by
  obtain ⟨-, -, -, -, -, h1, h2, h3⟩ := h
  unfold sm_wrs
  rcases hj with rfl | rfl | rfl
  · rw [h1]; exact sm_wr_u hi (by omega)
  · rw [h2]; exact sm_wr_u hi (by omega)
  · rw [h3]; exact sm_wr_u hi (by omega)
theorem al_rows : sm_al 1 = some (u32 6) := rfl
theorem al_texts : sm_al 14 = some (u32 4) := rfl
theorem al_reach : sm_al 54 = some (u32 64) := rfl

