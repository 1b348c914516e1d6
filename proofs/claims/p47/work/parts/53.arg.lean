/-! pure: numbers within bounds, by class and reference -/
def aBad (x : Int32) (k : Nat) : Prop := x < u32 0 ∨ ∃ n, k ≤ n ∧ n < 2147483648 ∧ x = u32 n
theorem aCases (x : Int32) (k : Nat) : aBad x k ∨ ∃ r, r < k ∧ r < 2147483648 ∧ x = u32 r := by
  rcases u32_cases x with h | ⟨n, h1, h2⟩
  · exact Or.inl (Or.inl h)
  · by_cases h3 : n < k
    · exact Or.inr ⟨n, h3, h1, h2⟩
    · exact Or.inl (Or.inr ⟨n, by omega, h1, h2⟩)
theorem aBad_int {x : Int32} {k : Nat} (h : aBad x k) : x.toInt < 0 ∨ (k : Int) ≤ x.toInt := by
  rcases h with h | ⟨n, h1, h2, rfl⟩
  · left
    rw [Int32.lt_iff_toInt_lt, u32_toInt (by decide)] at h
    exact h
  · right
    rw [u32_toInt h2]
    omega
theorem ho_within_bad {x : Int32} {k : Nat} {w : sm_Mem} (h : aBad x k) (hk : k < 2147483648) : ff_ho_isWithin x (u32 k) w = some (.int (u32 0), w) := by
  unfold ff_ho_isWithin
  simp only [u32_lit]
  rcases h with h | ⟨n, h1, h2, rfl⟩
  · rw [if_pos h]
  · rw [if_neg (by rw [u32_nneg h2]; exact id), if_pos (by rw [u32_le hk h2]; exact h1)]
theorem ho_within_good {r k : Nat} {w : sm_Mem} (h : r < k) (hk : k < 2147483648) : ff_ho_isWithin (u32 r) (u32 k) w = some (.int (u32 1), w) := by
  unfold ff_ho_isWithin
  simp only [u32_lit]
  rw [if_neg (by rw [u32_nneg (by omega)]; exact id), if_neg (by rw [u32_le hk (by omega)]; omega)]
theorem lg_lt {x y : Int64} : (lg_cmp x y < u32 0) = (x.toInt < y.toInt) := by
  unfold lg_cmp
  rw [← Int64.lt_iff_toInt_lt]
  by_cases h1 : x > y
  · rw [if_pos h1]
    refine propext ⟨fun h => absurd h (by decide), fun h => ?_⟩
    have h2 : y < x := h1
    rw [Int64.lt_iff_toInt_lt] at h h2
    omega
  · rw [if_neg h1]
    by_cases h2 : x = y
    · rw [if_pos h2]
      refine propext ⟨fun h => absurd h (by decide), fun h => ?_⟩
      rw [Int64.lt_iff_toInt_lt, h2] at h
      omega
    · rw [if_neg h2]
      refine propext ⟨fun _ => ?_, fun _ => by decide⟩
      have h3 : ¬ y < x := h1
      rw [Int64.lt_iff_toInt_lt] at h3 ⊢
      have h4 : x.toInt ≠ y.toInt := fun h => h2 (Int64.toInt_inj.mp h)
      omega
theorem lg_gt {x y : Int64} : (u32 0 < lg_cmp x y) = (y.toInt < x.toInt) := by
  unfold lg_cmp
  rw [← Int64.lt_iff_toInt_lt]
  by_cases h1 : x > y
  · rw [if_pos h1]
    exact propext ⟨fun _ => h1, fun _ => by decide⟩
  · rw [if_neg h1]
    refine propext ⟨fun h => ?_, fun h => absurd h h1⟩
    by_cases h2 : x = y
    · rw [if_pos h2] at h
      exact absurd h (by decide)
    · rw [if_neg h2] at h
      exact absurd h (by decide)
theorem u32_pred {n : Nat} (hn : n < 2147483648) : ((u32 n - u32 1).toInt64).toInt = (n : Int) - 1 := by
  rw [Int32.toInt_toInt64]
  cases n with
  | zero => rfl
  | succ n =>
    rw [u32_sub (by omega), u32_toInt (by omega)]
    omega
theorem rz_0 {w : sm_Mem} : sm_rz (u32 0) w = some (.int (u32 0), w) := if_pos (Or.inl rfl)
theorem rz_1 {w : sm_Mem} : sm_rz (u32 1) w = some (.int (u32 1), w) := if_pos (Or.inr rfl)
theorem u10 : (u32 1 = u32 0) = False := eq_false (by decide)
theorem u01 : (u32 0 = u32 1) = False := eq_false (by decide)
theorem u3n0 : (-u32 3 = u32 0) = False := eq_false (by decide)
theorem u1n0 : (-u32 1 = u32 0) = False := eq_false (by decide)
theorem u4n0 : (-u32 4 = u32 0) = False := eq_false (by decide)
theorem n9_lt : (u32 0 ≤ -u32 9) = False := eq_false (by decide)
theorem n1_lt : (u32 0 ≤ -u32 1) = False := eq_false (by decide)
theorem n9_neg : (-u32 9 < u32 0) = True := eq_true (by decide)
theorem n1_neg : (-u32 1 < u32 0) = True := eq_true (by decide)
theorem u0_le {n : Nat} (h : n < 2147483648) : (u32 0 ≤ u32 n) = True := by
  rw [u32_le (by decide) h]
  exact eq_true (Nat.zero_le n)
theorem u0_lt {n : Nat} (h : n < 2147483648) : (u32 n < u32 0) = False := u32_nneg h
theorem neg_le {x : Int32} {k : Nat} (h : x < u32 0) (hk : k < 2147483648) : (x ≤ u32 k) = True := by
  rw [Int32.lt_iff_toInt_lt, u32_toInt (by decide)] at h
  rw [Int32.le_iff_toInt_le, u32_toInt hk]
  exact eq_true (by omega)
theorem neg_nle {x : Int32} {k : Nat} (h : x < u32 0) (hk : k < 2147483648) : (u32 k ≤ x) = False := by
  rw [Int32.lt_iff_toInt_lt, u32_toInt (by decide)] at h
  rw [Int32.le_iff_toInt_le, u32_toInt hk]
  exact eq_false (by omega)
theorem neg_lt {x : Int32} {k : Nat} (h : x < u32 0) (hk : k < 2147483648) : (x < u32 k) = True := by
  rw [Int32.lt_iff_toInt_lt, u32_toInt (by decide)] at h
  rw [Int32.lt_iff_toInt_lt, u32_toInt hk]
  exact eq_true (by omega)
theorem neg_nlt {x : Int32} {k : Nat} (h : x < u32 0) (hk : k < 2147483648) : (u32 k < x) = False := by
  rw [Int32.lt_iff_toInt_lt, u32_toInt (by decide)] at h
  rw [Int32.lt_iff_toInt_lt, u32_toInt hk]
  exact eq_false (by omega)
/-- both answer, alike, and come to memories of which Q holds -/
def Both (c m : sm_Mem → sm_R) (Q : sm_Mem → Prop) (w : sm_Mem) : Prop := ∃ (v : Value) (w1 w2 : sm_Mem), c w = some (v, w1) ∧ m w1 = some (v, w2) ∧ Q w2
theorem Both_mk {c m : sm_Mem → sm_R} {Q : sm_Mem → Prop} {w : sm_Mem} (v : Value) (w1 w2 : sm_Mem) (hc : c w = some (v, w1)) (hm : m w1 = some (v, w2)) (hq : Q w2) : Both c m Q w := ⟨v, w1, w2, hc, hm, hq⟩
