/-! pure: numbers within bounds, by class and reference -/
def aBad (x : Int32) (k : Nat) : Prop := x < u32 0 ∨ ∃ n, k ≤ n ∧ n < 2147483648 ∧ x = u32 n
theorem aCases (x : Int32) (k : Nat) : aBad x k ∨ ∃ r, r < k ∧ r < 2147483648 ∧ x = u32 r := by
  rcases u32_cases x with h | ⟨n, h1, h2⟩
  · exact Or.inl (Or.inl h)
  · by_cases h3 : n < k
    · exact Or.inr ⟨n, h3, h1, h2⟩
    · exact Or.inl (Or.inr ⟨n, by omega, h1, h2⟩)
theorem aBad_int {x : Int32} {k : Nat} (h : aBad x k) : x.toInt < 0 ∨ (k : Int) ≤ x.toInt := by
  rcases h with h | ⟨n, h1, h2, rfl⟩
  · left
    rw [Int32.lt_iff_toInt_lt, u32_toInt (by decide)] at h
    exact h
  · right
    rw [u32_toInt h2]
    omega
theorem ho_within_bad {x : Int32} {k : Nat} {w : sm_Mem} (h : aBad x k) (hk : k < 2147483648) : ff_ho_isWithin x (u32 k) w = some (.int (u32 0), w) := by
  unfold ff_ho_isWithin
  simp only [u32_lit]
  rcases h with h | ⟨n, h1, h2, rfl⟩
  · rw [if_pos h]
  · rw [if_neg (by rw [u32_nneg h2]; exact id), if_pos (by rw [u32_le hk h2]; exact h1)]
theorem ho_within_good {r k : Nat} {w : sm_Mem} (h : r < k) (hk : k < 2147483648) : ff_ho_isWithin (u32 r) (u32 k) w = some (.int (u32 1), w) := by
  unfold ff_ho_isWithin
  simp only [u32_lit]
  rw [if_neg (by rw [u32_nneg (by omega)]; exact id), if_neg (by rw [u32_le hk (by omega)]; omega)]
theorem lg_lt {x y : Int64} : (lg_cmp x y < u32 0) = (x.toInt < y.toInt) := by
  unfold lg_cmp
  rw [← Int64.lt_iff_toInt_lt]
  by_cases h1 : x > y
  · rw [if_pos h1]
    refine propext ⟨fun h => absurd h (by decide), fun h => ?_⟩
    have h2 : y < x := h1
    rw [Int64.lt_iff_toInt_lt] at h h2
    omega
  · rw [if_neg h1]
    by_cases h2 : x = y
    · rw [if_pos h2]
      refine propext ⟨fun h => absurd h (by decide), fun h => ?_⟩
      rw [Int64.lt_iff_toInt_lt, h2] at h
      omega
    · rw [if_neg h2]
      refine propext ⟨fun _ => ?_, fun _ => by decide⟩
      have h3 : ¬ y < x := h1
      rw [Int64.lt_iff_toInt_lt] at h3 ⊢
      have h4 : x.toInt ≠ y.toInt := fun h => h2 (Int64.toInt_inj.mp h)
      omega
theorem lg_gt {x y : Int64} : (u32 0 < lg_cmp x y) = (y.toInt < x.toInt) := by
  unfold lg_cmp
  rw [← Int64.lt_iff_toInt_lt]
  by_cases h1 : x > y
  · rw [if_pos h1]
    exact propext ⟨fun _ => h1, fun _ => by decide⟩
  · rw [if_neg h1]
    refine propext ⟨fun h => ?_, fun h => absurd h h1⟩
    by_cases h2 : x = y
    · rw [if_pos h2] at h
      exact absurd h (by decide)
    · rw [if_neg h2] at h
      exact absurd h (by decide)
theorem mo_in_eq {x : Int32} {a b : Int64} {w : sm_Mem} : ff_mo_in x.toInt64 a b w = some (.int (if a.toInt ≤ x.toInt ∧ x.toInt ≤ b.toInt then u32 1 else u32 0), w) := by
  unfold ff_mo_in
  simp only [u32_lit, lg_lt, lg_gt, Int32.toInt_toInt64]
  by_cases h1 : x.toInt < a.toInt
  · rw [if_pos h1, if_neg (by omega)]
  · rw [if_neg h1]
    by_cases h2 : b.toInt < x.toInt
    · rw [if_pos h2, if_neg (by omega)]
    · rw [if_neg h2, if_pos (by omega)]
theorem mo_in_bad {x : Int32} {k : Nat} {b : Int64} {w : sm_Mem} (h : aBad x k) (hb : b.toInt = (k : Int) - 1) : ff_mo_in x.toInt64 0 b w = some (.int (u32 0), w) := by
  rw [mo_in_eq, if_neg]
  have h1 := aBad_int h
  have h2 : (0 : Int64).toInt = 0 := rfl
  omega
theorem mo_in_good {r k : Nat} {b : Int64} {w : sm_Mem} (h : r < k) (hk : k ≤ 2147483648) (hb : b.toInt = (k : Int) - 1) : ff_mo_in (u32 r).toInt64 0 b w = some (.int (u32 1), w) := by
  rw [mo_in_eq, if_pos]
  have h2 : (0 : Int64).toInt = 0 := rfl
  rw [u32_toInt (by omega)]
  omega
theorem u32_pred {n : Nat} (hn : n < 2147483648) : ((u32 n - u32 1).toInt64).toInt = (n : Int) - 1 := by
  rw [Int32.toInt_toInt64]
  cases n with
  | zero => rfl
  | succ n =>
    rw [u32_sub (by omega), u32_toInt (by omega)]
    omega
theorem rz_0 {w : sm_Mem} : sm_rz (u32 0) w = some (.int (u32 0), w) := if_pos (Or.inl rfl)
theorem rz_1 {w : sm_Mem} : sm_rz (u32 1) w = some (.int (u32 1), w) := if_pos (Or.inr rfl)
theorem mo_isRow_bad {x : Int32} {w : sm_Mem} (h : aBad x 6) : ff_mo_isRow x w = some (.int (u32 0), w) := by
  unfold ff_mo_isRow
  rw [mo_in_bad h rfl, sm_cI_some, rz_0]
theorem mo_isRow_good {r : Nat} {w : sm_Mem} (h : r < 6) : ff_mo_isRow (u32 r) w = some (.int (u32 1), w) := by
  unfold ff_mo_isRow
  rw [mo_in_good h (by decide) rfl, sm_cI_some, rz_1]
theorem mo_isText_bad {x : Int32} {w : sm_Mem} (h : aBad x 4) : ff_mo_isText x w = some (.int (u32 0), w) := by
  unfold ff_mo_isText
  rw [mo_in_bad h rfl, sm_cI_some, rz_0]
theorem mo_isText_good {r : Nat} {w : sm_Mem} (h : r < 4) : ff_mo_isText (u32 r) w = some (.int (u32 1), w) := by
  unfold ff_mo_isText
  rw [mo_in_good h (by decide) rfl, sm_cI_some, rz_1]
theorem u10 : (u32 1 = u32 0) = False := eq_false (by decide)
theorem u01 : (u32 0 = u32 1) = False := eq_false (by decide)
theorem u3n0 : (-u32 3 = u32 0) = False := eq_false (by decide)
theorem u1n0 : (-u32 1 = u32 0) = False := eq_false (by decide)
theorem u4n0 : (-u32 4 = u32 0) = False := eq_false (by decide)
theorem n9_lt : (u32 0 ≤ -u32 9) = False := eq_false (by decide)
theorem n1_lt : (u32 0 ≤ -u32 1) = False := eq_false (by decide)
theorem n9_neg : (-u32 9 < u32 0) = True := eq_true (by decide)
theorem n1_neg : (-u32 1 < u32 0) = True := eq_true (by decide)
theorem u0_le {n : Nat} (h : n < 2147483648) : (u32 0 ≤ u32 n) = True := by
  rw [u32_le (by decide) h]
  exact eq_true (Nat.zero_le n)
theorem u0_lt {n : Nat} (h : n < 2147483648) : (u32 n < u32 0) = False := u32_nneg h
theorem neg_le {x : Int32} {k : Nat} (h : x < u32 0) (hk : k < 2147483648) : (x ≤ u32 k) = True := by
  rw [Int32.lt_iff_toInt_lt, u32_toInt (by decide)] at h
  rw [Int32.le_iff_toInt_le, u32_toInt hk]
  exact eq_true (by omega)
theorem neg_nle {x : Int32} {k : Nat} (h : x < u32 0) (hk : k < 2147483648) : (u32 k ≤ x) = False := by
  rw [Int32.lt_iff_toInt_lt, u32_toInt (by decide)] at h
  rw [Int32.le_iff_toInt_le, u32_toInt hk]
  exact eq_false (by omega)
theorem neg_lt {x : Int32} {k : Nat} (h : x < u32 0) (hk : k < 2147483648) : (x < u32 k) = True := by
  rw [Int32.lt_iff_toInt_lt, u32_toInt (by decide)] at h
  rw [Int32.lt_iff_toInt_lt, u32_toInt hk]
  exact eq_true (by omega)
theorem neg_nlt {x : Int32} {k : Nat} (h : x < u32 0) (hk : k < 2147483648) : (u32 k < x) = False := by
  rw [Int32.lt_iff_toInt_lt, u32_toInt (by decide)] at h
  rw [Int32.lt_iff_toInt_lt, u32_toInt hk]
  exact eq_false (by omega)
/-- both answer, alike, and come to memories of which Q holds -/
def Both (c m : sm_Mem → sm_R) (Q : sm_Mem → Prop) (w : sm_Mem) : Prop := ∃ (v : Value) (w1 w2 : sm_Mem), c w = some (v, w1) ∧ m w1 = some (v, w2) ∧ Q w2
theorem Both_mk {c m : sm_Mem → sm_R} {Q : sm_Mem → Prop} {w : sm_Mem} (v : Value) (w1 w2 : sm_Mem) (hc : c w = some (v, w1)) (hm : m w1 = some (v, w2)) (hq : Q w2) : Both c m Q w := ⟨v, w1, w2, hc, hm, hq⟩
/-- rows, texts, what is told are alike; the houses' cells are as they were -/
def RCells (w w1 : sm_Mem) : Prop := RRows w1 ∧ RTexts w1 ∧ RTold w1 ∧ (∀ a, (24 ≤ a ∧ a < 49) ∨ (63 ≤ a ∧ a < 67) → w1.1 a = w.1 a) ∧ w1.1 62 1 = w.1 62 1
def RC (w : sm_Mem) : Prop := RRows w ∧ RTexts w ∧ RTold w
theorem RCells_same {w : sm_Mem} (h : RC w) : RCells w w := ⟨h.1, h.2.1, h.2.2, fun _ _ => rfl, rfl⟩
theorem RCells_ref {f : Nat} {w : sm_Mem} (h : RC w) : RCells w (wmRef f (wcRef f w)) :=
  ⟨RRows_fr (fun a ha => by rw [wmRef_ne (by omega) (by omega), wcRef_ne (by omega) (by omega)]) h.1, RTexts_fr (fun a ha => by rw [wmRef_ne (by omega) (by omega), wcRef_ne (by omega) (by omega)]) h.2.1, RTold_ref h.2.2, fun a ha => by rw [wmRef_ne (by omega) (by omega), wcRef_ne (by omega) (by omega)], by rw [wmRef_62 (by decide), wcRef_ne (by decide) (by decide)]⟩
theorem Both_same {c m : sm_Mem → sm_R} {w : sm_Mem} (v : Int32) (hc : c w = some (.int v, w)) (hm : m w = some (.int v, w)) (h : RC w) : Both c m (RCells w) w := Both_mk _ w w hc hm (RCells_same h)
theorem Both_ref {c m : sm_Mem → sm_R} {w : sm_Mem} (f : Nat) (hc : c w = some (.int (-u32 3), wcRef f w)) (hm : m (wcRef f w) = some (.int (-u32 3), wmRef f (wcRef f w))) (h : RC w) : Both c m (RCells w) w := Both_mk _ _ _ hc hm (RCells_ref h)
