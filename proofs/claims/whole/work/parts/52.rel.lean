/-! pure: what the two halves of the memory have in common: rows, texts, what is told -/
def szc : Option Nat → Int32
  | none => -u32 9
  | some n => u32 n
def szm : Option Nat → Int32
  | none => -u32 1
  | some n => u32 n
def RRow (w : sm_Mem) (r : Nat) : Prop := ∃ o : Option Nat, w.1 (2 + 2 * r) 1 = szc o ∧ w.1 67 r = szm o ∧ ∀ n, o = some n → n ≤ 40 ∧ ∀ j, j < n → w.1 (2 + 2 * r + 1) j = w.1 68 (40 * r + j)
def RText (w : sm_Mem) (r : Nat) : Prop := ∃ o : Option Nat, w.1 (15 + 2 * r) 1 = szc o ∧ w.1 69 r = szm o ∧ ∀ n, o = some n → n ≤ 60 ∧ ∀ j, j < n → w.1 (15 + 2 * r + 1) j = w.1 70 (60 * r + j)
def RRows (w : sm_Mem) : Prop := ∀ r, r < 6 → RRow w r
def RTexts (w : sm_Mem) : Prop := ∀ r, r < 4 → RText w r
def RTold (w : sm_Mem) : Prop := w.1 60 0 = w.1 62 9 ∧ w.2 60 1 = w.2 62 10 ∧ w.2 60 2 = w.2 62 11 ∧ w.1 60 3 = w.1 62 12 ∧ ∀ f, f < 6 → w.1 61 f = w.1 71 f
theorem RRow_fr {w w1 : sm_Mem} {r : Nat} (hr : r < 6) (h : ∀ a, (2 ≤ a ∧ a < 14) ∨ a = 67 ∨ a = 68 → w1.1 a = w.1 a) (H : RRow w r) : RRow w1 r := by
  unfold RRow at H ⊢
  rw [h (2 + 2 * r) (by omega), h 67 (by omega), h 68 (by omega), h (2 + 2 * r + 1) (by omega)]
  exact H
theorem RText_fr {w w1 : sm_Mem} {r : Nat} (hr : r < 4) (h : ∀ a, (15 ≤ a ∧ a < 23) ∨ a = 69 ∨ a = 70 → w1.1 a = w.1 a) (H : RText w r) : RText w1 r := by
  unfold RText at H ⊢
  rw [h (15 + 2 * r) (by omega), h 69 (by omega), h 70 (by omega), h (15 + 2 * r + 1) (by omega)]
  exact H
theorem RRows_fr {w w1 : sm_Mem} (h : ∀ a, (2 ≤ a ∧ a < 14) ∨ a = 67 ∨ a = 68 → w1.1 a = w.1 a) (H : RRows w) : RRows w1 := fun r hr => RRow_fr hr h (H r hr)
theorem RTexts_fr {w w1 : sm_Mem} (h : ∀ a, (15 ≤ a ∧ a < 23) ∨ a = 69 ∨ a = 70 → w1.1 a = w.1 a) (H : RTexts w) : RTexts w1 := fun r hr => RText_fr hr h (H r hr)
theorem RTold_fr {w w1 : sm_Mem} (h : w1.1 60 0 = w.1 60 0 ∧ w1.1 60 3 = w.1 60 3 ∧ w1.1 61 = w.1 61 ∧ w1.1 71 = w.1 71 ∧ w1.1 62 9 = w.1 62 9 ∧ w1.1 62 12 = w.1 62 12) (h2 : w1.2 = w.2) (H : RTold w) : RTold w1 := by
  obtain ⟨h1, h3, h4, h5, h6, h7⟩ := h
  unfold RTold at H ⊢
  rw [h1, h3, h4, h5, h6, h7, h2]
  exact H
theorem RRow.cases {w : sm_Mem} {r : Nat} (H : RRow w r) : (w.1 (2 + 2 * r) 1 = -u32 9 ∧ w.1 67 r = -u32 1) ∨ ∃ n, n ≤ 40 ∧ w.1 (2 + 2 * r) 1 = u32 n ∧ w.1 67 r = u32 n ∧ ∀ j, j < n → w.1 (2 + 2 * r + 1) j = w.1 68 (40 * r + j) := by
  obtain ⟨o, h1, h2, h3⟩ := H
  cases o with
  | none => exact Or.inl ⟨h1, h2⟩
  | some n => exact Or.inr ⟨n, (h3 n rfl).1, h1, h2, (h3 n rfl).2⟩
theorem RText.cases {w : sm_Mem} {r : Nat} (H : RText w r) : (w.1 (15 + 2 * r) 1 = -u32 9 ∧ w.1 69 r = -u32 1) ∨ ∃ n, n ≤ 60 ∧ w.1 (15 + 2 * r) 1 = u32 n ∧ w.1 69 r = u32 n ∧ ∀ j, j < n → w.1 (15 + 2 * r + 1) j = w.1 70 (60 * r + j) := by
  obtain ⟨o, h1, h2, h3⟩ := H
  cases o with
  | none => exact Or.inl ⟨h1, h2⟩
  | some n => exact Or.inr ⟨n, (h3 n rfl).1, h1, h2, (h3 n rfl).2⟩
theorem RRow.mk_some {w : sm_Mem} {r n : Nat} (hn : n ≤ 40) (h1 : w.1 (2 + 2 * r) 1 = u32 n) (h2 : w.1 67 r = u32 n) (h3 : ∀ j, j < n → w.1 (2 + 2 * r + 1) j = w.1 68 (40 * r + j)) : RRow w r := ⟨some n, h1, h2, fun m hm => by cases hm; exact ⟨hn, h3⟩⟩
theorem RRow.mk_none {w : sm_Mem} {r : Nat} (h1 : w.1 (2 + 2 * r) 1 = -u32 9) (h2 : w.1 67 r = -u32 1) : RRow w r := ⟨none, h1, h2, fun m hm => by cases hm⟩
theorem RText.mk_some {w : sm_Mem} {r n : Nat} (hn : n ≤ 60) (h1 : w.1 (15 + 2 * r) 1 = u32 n) (h2 : w.1 69 r = u32 n) (h3 : ∀ j, j < n → w.1 (15 + 2 * r + 1) j = w.1 70 (60 * r + j)) : RText w r := ⟨some n, h1, h2, fun m hm => by cases hm; exact ⟨hn, h3⟩⟩
/-- what is refused by a finding -/
def wcRef (f : Nat) (w : sm_Mem) : sm_Mem := sm_wI (sm_wI w 60 3 (u32 f)) 61 f (w.1 61 f + u32 1)
def wmRef (f : Nat) (w : sm_Mem) : sm_Mem := sm_wI (sm_wI w 62 12 (u32 f)) 71 f (w.1 71 f + u32 1)
theorem wcRef_ne {f a : Nat} {w : sm_Mem} (h : a ≠ 60) (h1 : a ≠ 61) : (wcRef f w).1 a = w.1 a := by
  unfold wcRef
  rw [sm_wI_ne h1, sm_wI_ne h]
theorem wmRef_ne {f a : Nat} {w : sm_Mem} (h : a ≠ 62) (h1 : a ≠ 71) : (wmRef f w).1 a = w.1 a := by
  unfold wmRef
  rw [sm_wI_ne h1, sm_wI_ne h]
theorem wmRef_62 {f j : Nat} {w : sm_Mem} (h : j ≠ 12) : (wmRef f w).1 62 j = w.1 62 j := by
  unfold wmRef
  rw [sm_wI_ne (by decide), sm_wI_nj h]
theorem wcRef_60 {f j : Nat} {w : sm_Mem} (h : j ≠ 3) : (wcRef f w).1 60 j = w.1 60 j := by
  unfold wcRef
  rw [sm_wI_ne (by decide), sm_wI_nj h]
theorem td_refuse {f : Nat} {w : sm_Mem} (hf : f < 6) : ff_td_refuse (u32 f) w = some (.int (-u32 3), wcRef f w) := by
  unfold ff_td_refuse wcRef
  simp (disch := omega) only [u32_lit, sm_let_eq, sm_rd_u, sm_wr_u, sm_bind_some, sm_wI_ne]
theorem mo_find {f : Nat} {w : sm_Mem} (hf : f < 6) : ff_mo_find (u32 f) w = some (.int (-u32 3), wmRef f w) := by
  unfold ff_mo_find wmRef
  simp (disch := omega) only [u32_lit, sm_let_eq, sm_rd_u, sm_wr_u, sm_bind_some, sm_wI_ne]
theorem RTold_ref {f : Nat} {w : sm_Mem} (H : RTold w) : RTold (wmRef f (wcRef f w)) := by
  obtain ⟨h1, h2, h3, h4, h5⟩ := H
  refine ⟨?_, h2, h3, ?_, fun g hg => ?_⟩
  · rw [wmRef_ne (by decide) (by decide), wmRef_62 (by decide), wcRef_60 (by decide), wcRef_ne (by decide) (by decide)]
    exact h1
  · rw [wmRef_ne (by decide) (by decide)]
    rfl
  · rw [wmRef_ne (by decide) (by decide)]
    show (if (61 : Nat) = 61 ∧ g = f then w.1 61 f + u32 1 else w.1 61 g) = (if (71 : Nat) = 71 ∧ g = f then w.1 71 f + u32 1 else w.1 71 g)
    by_cases hgf : g = f
    · subst hgf
      simp [h5 g hg]
    · simp [hgf, h5 g hg]
