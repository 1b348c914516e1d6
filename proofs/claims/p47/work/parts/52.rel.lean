/-! pure: what the two halves of the memory have in common: rows, texts, what is told -/
def szc : Option Nat → Int32
  | none => -u32 9
  | some n => u32 n
def szm : Option Nat → Int32
  | none => -u32 1
  | some n => u32 n
/-- what is refused by a finding -/
def wcRef (f : Nat) (w : sm_Mem) : sm_Mem := sm_wI (sm_wI w 60 3 (u32 f)) 61 f (w.1 61 f + u32 1)
theorem wcRef_ne {f a : Nat} {w : sm_Mem} (h : a ≠ 60) (h1 : a ≠ 61) : (wcRef f w).1 a = w.1 a := by
  unfold wcRef
  rw [sm_wI_ne h1, sm_wI_ne h]
theorem wcRef_60 {f j : Nat} {w : sm_Mem} (h : j ≠ 3) : (wcRef f w).1 60 j = w.1 60 j := by
  unfold wcRef
  rw [sm_wI_ne (by decide), sm_wI_nj h]
theorem td_refuse {f : Nat} {w : sm_Mem} (hf : f < 6) : ff_td_refuse (u32 f) w = some (.int (-u32 3), wcRef f w) := by
  unfold ff_td_refuse wcRef
  simp (disch := omega) only [u32_lit, sm_let_eq, sm_rd_u, sm_wr_u, sm_bind_some, sm_wI_ne]
