def sumB (f : Nat → Nat) : Nat → Nat → Int32 → Int32
  | _, 0, a => a
  | i, m + 1, a => sumB f (i + 1) m (a + u32 (f i))
def anyF (H : HV) : Nat → Nat → Int32 → Int32
  | _, 0, a => a
  | i, m + 1, a => anyF H (i + 1) m (a ||| sayF H i)
theorem hs_breath_loop {H : HV} {w : sm_Mem} (h : CH w H) (hok : HOk H) : ∀ (m i F : Nat) (a : Int32), i + m = hN H → m < F → ff_hs_breathLeft_4_f F a (u32 i) w = some (.int (sumB (hB H) i m a), w) := by
  have h6 := hok.1
  intro m
  induction m with
  | zero =>
    intro i F a hm hF
    obtain ⟨F, rfl⟩ : ∃ G, F = G + 1 := ⟨F - 1, by omega⟩
    rw [ff_hs_breathLeft_4_f]
    unfold ff_hs_breathLeft_4_b
    simp (disch := omega) only [u32_lit, sm_let_eq, sm_bind_some, sm_cI_some, sm_cV_some, sm_cL_some, sm_rd_u, sm_wr_u, u32_add, u32_mul, u32_sub, u32_le, u32_lt, u32_eq, u32_eq_neg, u32_neg_eq, u32_neg_neg, u32_le_neg, u32_neg_lt, u32_lt_neg, u32_neg_le, u10, u01, u3n0, u1n0, u4n0, n9_lt, n1_lt, n9_neg, n1_neg, if_true, if_false, if_pos, if_neg, ne_eq, not_true_eq_false, not_false_eq_true, h.1, sumB]
  | succ m ih =>
    intro i F a hm hF
    obtain ⟨F, rfl⟩ : ∃ G, F = G + 1 := ⟨F - 1, by omega⟩
    rw [ff_hs_breathLeft_4_f]
    unfold ff_hs_breathLeft_4_b
    have hi : i < hN H := by omega
    simp (disch := omega) only [u32_lit, h.1, u32_le, if_neg, sm_rd_u, sm_bind_some, (h.2.1 i hi).2.2.2, u32_add, sumB]
    rw [ih (i + 1) F _ (by omega) (by omega)]
theorem hs_any_loop {H : HV} {w : sm_Mem} (h : CH w H) (hok : HOk H) : ∀ (m i F : Nat) (a : Int32), i + m = hN H → m < F → ff_hs_sayableByAny_4_f F a (u32 i) w = some (.int (anyF H i m a), w) := by
  have h6 := hok.1
  intro m
  induction m with
  | zero =>
    intro i F a hm hF
    obtain ⟨F, rfl⟩ : ∃ G, F = G + 1 := ⟨F - 1, by omega⟩
    rw [ff_hs_sayableByAny_4_f]
    unfold ff_hs_sayableByAny_4_b
    simp (disch := omega) only [u32_lit, sm_let_eq, sm_bind_some, sm_cI_some, sm_cV_some, sm_cL_some, sm_rd_u, sm_wr_u, u32_add, u32_mul, u32_sub, u32_le, u32_lt, u32_eq, u32_eq_neg, u32_neg_eq, u32_neg_neg, u32_le_neg, u32_neg_lt, u32_lt_neg, u32_neg_le, u10, u01, u3n0, u1n0, u4n0, n9_lt, n1_lt, n9_neg, n1_neg, if_true, if_false, if_pos, if_neg, ne_eq, not_true_eq_false, not_false_eq_true, h.1, anyF]
  | succ m ih =>
    intro i F a hm hF
    obtain ⟨F, rfl⟩ : ∃ G, F = G + 1 := ⟨F - 1, by omega⟩
    rw [ff_hs_sayableByAny_4_f]
    unfold ff_hs_sayableByAny_4_b
    have hi : i < hN H := by omega
    simp (disch := omega) only [u32_lit, h.1, u32_le, if_neg, hs_sayable h hok hi, sm_cI_some, u32_add, anyF]
    rw [ih (i + 1) F _ (by omega) (by omega)]
theorem hs_parrots_loop {H : HV} {w : sm_Mem} (h : CH w H) (hok : HOk H) : ∀ (m i F : Nat) (a : Int32), i + m = hN H → m < F → ff_hs_parrots_4_f F a (u32 i) w = some (.int (cntF (fun i => isOfV (hK H i) 1) i m a), w) := by
  have h6 := hok.1
  intro m
  induction m with
  | zero =>
    intro i F a hm hF
    obtain ⟨F, rfl⟩ : ∃ G, F = G + 1 := ⟨F - 1, by omega⟩
    rw [ff_hs_parrots_4_f]
    unfold ff_hs_parrots_4_b
    simp (disch := omega) only [u32_lit, sm_let_eq, sm_bind_some, sm_cI_some, sm_cV_some, sm_cL_some, sm_rd_u, sm_wr_u, u32_add, u32_mul, u32_sub, u32_le, u32_lt, u32_eq, u32_eq_neg, u32_neg_eq, u32_neg_neg, u32_le_neg, u32_neg_lt, u32_lt_neg, u32_neg_le, u10, u01, u3n0, u1n0, u4n0, n9_lt, n1_lt, n9_neg, n1_neg, if_true, if_false, if_pos, if_neg, ne_eq, not_true_eq_false, not_false_eq_true, h.1, cntF]
  | succ m ih =>
    intro i F a hm hF
    obtain ⟨F, rfl⟩ : ∃ G, F = G + 1 := ⟨F - 1, by omega⟩
    rw [ff_hs_parrots_4_f]
    unfold ff_hs_parrots_4_b
    have hi : i < hN H := by omega
    simp (disch := omega) only [u32_lit, h.1, u32_le, if_neg, sm_rd_u, sm_bind_some, (h.2.1 i hi).1, ho_isOf (hok.2.1 i hi).1 (show 1 < 6 by omega), sm_cI_some, u32_bool_eq0, u32_add, cntF]
    by_cases hb : isOfV (hK H i) 1 = true
    · rw [if_neg (by rw [hb]; decide), if_pos hb]
      exact ih (i + 1) F _ (by omega) (by omega)
    · rw [if_pos (by simpa using hb), if_neg hb]
      exact ih (i + 1) F _ (by omega) (by omega)
theorem cntF_add {p : Nat → Bool} : ∀ (m k i : Nat) (a : Int32), cntF p i (m + k) a = cntF p (i + m) k (cntF p i m a)
  | 0, k, i, a => by rw [Nat.zero_add]; rfl
  | m + 1, k, i, a => by rw [show m + 1 + k = (m + k) + 1 by omega, cntF, cntF_add m k (i + 1) _, cntF, show i + 1 + m = i + (m + 1) by omega]
theorem cntF_none {p : Nat → Bool} : ∀ (m i : Nat) (a : Int32), (∀ j, i ≤ j → p j = false) → cntF p i m a = a
  | 0, _, _, _ => rfl
  | m + 1, i, a, h => by
    rw [cntF, h i (Nat.le_refl _), if_neg (by decide)]
    exact cntF_none m (i + 1) a (fun j hj => h j (by omega))
