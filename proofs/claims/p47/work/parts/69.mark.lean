/-! pure: speaker, mark -/
theorem hs_saidBy_loop {H : HV} {i : Nat} {w : sm_Mem} (h : CH w H) (hok : HOk H) (hi : i < 6) : ∀ (m k F : Nat) (a : Int32), k + m = (hO H).length → m < F → ff_hs_saidBy_4_f F (u32 i) a (u32 k) w = some (.int (cntF (fun k => decide ((ordAt (hO H) k).2 = i)) k m a), w) := by
  have h8 := hok.2.2.2.1
  have h6 := hok.1
  intro m
  induction m with
  | zero =>
    intro k F a hm hF
    obtain ⟨F, rfl⟩ : ∃ G, F = G + 1 := ⟨F - 1, by omega⟩
    rw [ff_hs_saidBy_4_f]
    unfold ff_hs_saidBy_4_b
    simp (disch := omega) only [u32_lit, sm_let_eq, sm_bind_some, sm_cI_some, sm_cV_some, sm_cL_some, sm_rd_u, sm_wr_u, u32_add, u32_mul, u32_sub, u32_le, u32_lt, u32_eq, u32_eq_neg, u32_neg_eq, u32_neg_neg, u32_le_neg, u32_neg_lt, u32_lt_neg, u32_neg_le, u10, u01, u3n0, u1n0, u4n0, n9_lt, n1_lt, n9_neg, n1_neg, if_true, if_false, if_pos, if_neg, ne_eq, not_true_eq_false, not_false_eq_true, cntF, h.2.2.2.1]
  | succ m ih =>
    intro k F a hm hF
    obtain ⟨F, rfl⟩ : ∃ G, F = G + 1 := ⟨F - 1, by omega⟩
    have hk : k < (hO H).length := by omega
    have hp := ordAt_ok hok hk
    rw [ff_hs_saidBy_4_f]
    unfold ff_hs_saidBy_4_b
    simp (disch := omega) only [u32_lit, h.2.2.2.1, u32_le, if_neg, sm_rd_u, sm_bind_some, (ordC_at _ k hk h.2.2.2.2).2, u32_eq, u32_add, cntF, decide_eq_true_eq]
    by_cases e : (ordAt (hO H) k).2 = i
    · rw [if_pos e, if_pos e]
      exact ih (k + 1) F _ (by omega) (by omega)
    · rw [if_neg e, if_neg e]
      exact ih (k + 1) F _ (by omega) (by omega)
def factV (B : HBase) (H : HV) (i : Nat) : Nat → Int32
  | 0 => u32 (hK H i)
  | 1 => u32 (hW H i)
  | 2 => u32 (hR H i)
  | 3 => u32 (B.2.2.2.2 i)
  | 4 => u32 (hB H i)
  | _ => cntF (fun k => decide ((ordAt (hO H) k).2 = i)) 0 (hO H).length (u32 0)
theorem hs_factOf {B : HBase} {H : HV} {i x : Nat} {w : sm_Mem} (h : CH w H) (hok : HOk H) (hb : CB w B) (hn : hN H = B.1) (hi : i < hN H) (hx : x < 6) : ff_hs_factOf (u32 i) (u32 x) w = some (.int (factV B H i x), w) := by
  have h6 := hok.1
  obtain ⟨a1, a2, a3, a4⟩ := h.2.1 i hi
  have a5 := (hb i (by omega)).2
  have hs : ff_hs_saidBy (u32 i) w = some (.int (cntF (fun k => decide ((ordAt (hO H) k).2 = i)) 0 (hO H).length (u32 0)), w) := by
    unfold ff_hs_saidBy ff_hs_saidBy_4
    rw [sm_N_eq, u32_lit]
    exact hs_saidBy_loop h hok (by omega) _ 0 1000000 _ (by omega) (by have := hok.2.2.2.1; omega)
  unfold ff_hs_factOf
  have e0 : sm_sw (u32 x) 0 = sm_sw (u32 x) ((0 : Nat) : Int) := rfl
  simp (disch := omega) only [e0, sm_sw_u, sm_rd_u, sm_bind_some, a1, a2, a3, a4, a5, hs, sm_cI_some]
  rcases (show x = 0 ∨ x = 1 ∨ x = 2 ∨ x = 3 ∨ x = 4 ∨ x = 5 by omega) with rfl | rfl | rfl | rfl | rfl | rfl <;> rfl
/-! mark -/
def isOfV (a b : Nat) : Bool := decide (a = b ∨ b = 0 ∨ (a = 4 ∧ b = 3) ∨ (a = 5 ∧ b = 1))
theorem ho_isOf {a b : Nat} {w : sm_Mem} (ha : a < 6) (hb : b < 6) : ff_ho_isOf (u32 a) (u32 b) w = some (.int (u32 (isOfV a b).toNat), w) := by
  unfold ff_ho_isOf ff_ho_isOf_21 isOfV
  simp (disch := omega) only [u32_lit, u32_eq]
  repeat' split
  all_goals first | (rw [decide_eq_true (by omega)]; rfl) | (rw [decide_eq_false (by omega)]; rfl)
/-! how many bits -/
def popV (v : Nat) : Nat := (v.testBit 0).toNat + (v.testBit 1).toNat + (v.testBit 2).toNat + (v.testBit 3).toNat + (v.testBit 4).toNat + (v.testBit 5).toNat
noncomputable def bcE (x : Int32) : Int32 := match ff_ig_bitCount x (fun _ _ => 0, fun _ _ => 0) with
  | some (.int y, _) => y
  | _ => 0
theorem ig_bitCount {v : Nat} {w : sm_Mem} (hv : v < 64) : ff_ig_bitCount (u32 v) w = some (.int (u32 (popV v)), w) := by
  have e : ff_ig_bitCount (u32 v) w = some (.int (bcE (u32 v)), w) := rfl
  have key : ∀ v, v < 64 → bcE (u32 v) = u32 (popV v) := by decide +kernel
  rw [e, key v hv]
theorem u32_and21 {v : Nat} (hv : v < 64) : u32 v &&& u32 21 = u32 (v &&& 21) ∧ v &&& 21 < 64 := by
  have key : ∀ v, v < 64 → u32 v &&& u32 21 = u32 (v &&& 21) ∧ v &&& 21 < 64 := by decide +kernel
  exact key v hv
