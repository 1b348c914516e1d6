/-! pure: small numbers -/
def u32 (n : Nat) : Int32 := Int32.ofNat n
theorem u32_lit (n : Nat) : @OfNat.ofNat Int32 (no_index n) Int32.instOfNat = u32 n := (Eq.refl (u32 n)).trans (Eq.refl (u32 n))
theorem u32_toInt {a : Nat} (h : a < 2147483648) : (u32 a).toInt = (a : Int) := Int32.toInt_ofNat_of_lt h
theorem u32_add {a b : Nat} : u32 a + u32 b = u32 (a + b) := (Int32.ofNat_add a b).symm
theorem u32_mul {a b : Nat} : u32 a * u32 b = u32 (a * b) := (Int32.ofNat_mul a b).symm
theorem u32_sub {a b : Nat} (h : b ≤ a) : u32 a - u32 b = u32 (a - b) := by
  have e : u32 a = u32 (a - b) + u32 b := by rw [u32_add, Nat.sub_add_cancel h]
  rw [e, Int32.add_sub_cancel]
theorem u32_lt {a b : Nat} (ha : a < 2147483648) (hb : b < 2147483648) : (u32 a < u32 b) = (a < b) := by
  rw [Int32.lt_iff_toInt_lt, u32_toInt ha, u32_toInt hb]
  exact propext Int.ofNat_lt
theorem u32_le {a b : Nat} (ha : a < 2147483648) (hb : b < 2147483648) : (u32 a ≤ u32 b) = (a ≤ b) := by
  rw [Int32.le_iff_toInt_le, u32_toInt ha, u32_toInt hb]
  exact propext Int.ofNat_le
theorem u32_eq {a b : Nat} (ha : a < 2147483648) (hb : b < 2147483648) : (u32 a = u32 b) = (a = b) := by
  refine propext ⟨fun h => ?_, fun h => by rw [h]⟩
  have := congrArg Int32.toInt h
  rw [u32_toInt ha, u32_toInt hb] at this
  exact Int.ofNat_inj.mp this
theorem u32_idx {a : Nat} (ha : a < 2147483648) : (u32 a).toNatClampNeg = a := by
  unfold Int32.toNatClampNeg
  rw [u32_toInt ha]
  rfl
theorem u32_nneg {a : Nat} (ha : a < 2147483648) : (u32 a < u32 0) = False := by
  rw [u32_lt ha (by decide)]
  simp
theorem u32_cases (x : Int32) : x < u32 0 ∨ ∃ n, n < 2147483648 ∧ x = u32 n := by
  by_cases h : x < u32 0
  · exact Or.inl h
  · refine Or.inr ⟨x.toInt.toNat, ?_, ?_⟩
    · have := x.toInt_lt
      omega
    · rw [Int32.lt_iff_toInt_lt, u32_toInt (by decide)] at h
      apply Int32.toInt_inj.mp
      have h2 := x.toInt_lt
      rw [u32_toInt (by omega)]
      omega
theorem u32_neg {a : Nat} (ha : a < 2147483648) : (-u32 a).toInt = -(a : Int) := by
  rw [Int32.toInt_neg, u32_toInt ha]
  exact Int.bmod_eq_of_le (by omega) (by omega)
theorem u32_eq_neg {a b : Nat} (ha : a < 2147483648) (hb : 0 < b) (hb2 : b < 2147483648) : (u32 a = -u32 b) = False := by
  refine propext ⟨fun h => ?_, False.elim⟩
  have := congrArg Int32.toInt h
  rw [u32_toInt ha, u32_neg hb2] at this
  omega
theorem u32_neg_eq {a b : Nat} (ha : a < 2147483648) (hb : 0 < b) (hb2 : b < 2147483648) : (-u32 b = u32 a) = False := by
  refine propext ⟨fun h => ?_, False.elim⟩
  have := congrArg Int32.toInt h
  rw [u32_toInt ha, u32_neg hb2] at this
  omega
theorem u32_neg_neg {a b : Nat} (ha : a < 2147483648) (hb2 : b < 2147483648) : (-u32 b = -u32 a) = (b = a) := by
  refine propext ⟨fun h => ?_, fun h => by rw [h]⟩
  have := congrArg Int32.toInt h
  rw [u32_neg ha, u32_neg hb2] at this
  omega
theorem u32_le_neg {a b : Nat} (ha : a < 2147483648) (hb : 0 < b) (hb2 : b < 2147483648) : (u32 a ≤ -u32 b) = False := by
  rw [Int32.le_iff_toInt_le, u32_toInt ha, u32_neg hb2]
  exact eq_false (by omega)
theorem u32_neg_lt {a b : Nat} (ha : a < 2147483648) (hb : 0 < b) (hb2 : b < 2147483648) : (-u32 b < u32 a) = True := by
  rw [Int32.lt_iff_toInt_lt, u32_toInt ha, u32_neg hb2]
  exact eq_true (by omega)
theorem u32_lt_neg {a b : Nat} (ha : a < 2147483648) (hb : 0 < b) (hb2 : b < 2147483648) : (u32 a < -u32 b) = False := by
  rw [Int32.lt_iff_toInt_lt, u32_toInt ha, u32_neg hb2]
  exact eq_false (by omega)
theorem u32_neg_le {a b : Nat} (ha : a < 2147483648) (hb : 0 < b) (hb2 : b < 2147483648) : (-u32 b ≤ u32 a) = True := by
  rw [Int32.le_iff_toInt_le, u32_toInt ha, u32_neg hb2]
  exact eq_true (by omega)
theorem u32_div {a b : Nat} (ha : a < 2147483648) (hb : b < 2147483648) : u32 a / u32 b = u32 (a / b) := by
  have h3 : a / b < 2147483648 := Nat.lt_of_le_of_lt (Nat.div_le_self a b) ha
  apply Int32.toInt_inj.mp
  rw [Int32.toInt_div, u32_toInt ha, u32_toInt hb, u32_toInt h3]
  rw [← Int.ofNat_tdiv]
  generalize a / b = q at h3 ⊢
  exact Int.bmod_eq_of_le (by omega) (by omega)
theorem u32_mod {a b : Nat} (ha : a < 2147483648) (hb : b < 2147483648) : u32 a % u32 b = u32 (a % b) := by
  have h3 : a % b < 2147483648 := Nat.lt_of_le_of_lt (Nat.mod_le a b) ha
  apply Int32.toInt_inj.mp
  rw [Int32.toInt_mod, u32_toInt ha, u32_toInt hb, u32_toInt h3]
  rw [← Int.ofNat_tmod]
theorem u32_long {a : Nat} (ha : a < 2147483648) : (u32 a).toInt64 = Int64.ofNat a := by
  apply Int64.toInt_inj.mp
  rw [Int32.toInt_toInt64, u32_toInt ha, Int64.toInt_ofNat_of_lt (by omega)]
theorem u32_sub1 (x : Int32) : x - u32 0 = x := Int32.sub_zero x

