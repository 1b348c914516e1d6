/-! mean -/
def sumTo (f : Nat → Int32) : Nat → Nat → Int64 → Int64
  | _, 0, a => a
  | i, m + 1, a => sumTo f (i + 1) m (a + (f i).toInt64)
theorem sumTo_congr {f g : Nat → Int32} : ∀ (m i : Nat) (a : Int64), (∀ j, i ≤ j → j < i + m → f j = g j) → sumTo f i m a = sumTo g i m a
  | 0, _, _, _ => rfl
  | m + 1, i, a, h => by
    rw [sumTo, sumTo, h i (Nat.le_refl _) (by omega)]
    exact sumTo_congr m (i + 1) _ (fun j h1 h2 => h j (by omega) (by omega))
theorem sm_acp_u {a b ma mb i j n : Nat} {w : sm_Mem} (hA : isRow a ma) (hB : isRow b mb) (hi : i + n ≤ ma) (hj : j + n ≤ mb) : sm_acp w (a + 1) (u32 i) (b + 1) (u32 j) (u32 n) = some (sm_wA w (b + 1) (va_cpy (w.1 (a + 1)) (w.1 (b + 1)) i j n)) := by
  have h1 := hA.2.2.2.2
  have h2 := hB.2.2.2.2
  unfold sm_acp
  rw [hA.2.2.2.1, hB.2.2.2.1]
  dsimp only
  rw [if_neg]
  · rw [u32_idx (by omega), u32_idx (by omega), u32_idx (by omega)]
  · rw [u32_idx (by omega), u32_idx (by omega), u32_idx (by omega)]
    rintro (h | h | h | h | h)
    · exact (u32_nneg (a := i) (by omega)).mp h
    · exact (u32_nneg (a := j) (by omega)).mp h
    · exact (u32_nneg (a := n) (by omega)).mp h
    · omega
    · omega
