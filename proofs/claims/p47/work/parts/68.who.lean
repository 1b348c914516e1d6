/-! pure: who, what, said, speaker -/
def orF (p : Nat → Bool) : Nat → Nat → Int32 → Int32
  | _, 0, a => a
  | i, m + 1, a => orF p (i + 1) m (if p i then a ||| (u32 1 <<< (u32 i &&& u32 31)) else a)
def cntF (p : Nat → Bool) : Nat → Nat → Int32 → Int32
  | _, 0, a => a
  | i, m + 1, a => cntF p (i + 1) m (if p i then a + u32 1 else a)
theorem or_u0 (x : Int32) : x ||| u32 0 = x := Int32.or_zero
theorem add_u0 (x : Int32) : x + u32 0 = x := Int32.add_zero x
theorem orF_congr {p q : Nat → Bool} : ∀ (m i : Nat) (a : Int32), (∀ j, i ≤ j → j < i + m → p j = q j) → orF p i m a = orF q i m a
  | 0, _, _, _ => rfl
  | m + 1, i, a, h => by
    rw [orF, orF, h i (Nat.le_refl _) (by omega)]
    exact orF_congr m (i + 1) _ (fun j h1 h2 => h j (by omega) (by omega))
theorem cntF_congr {p q : Nat → Bool} : ∀ (m i : Nat) (a : Int32), (∀ j, i ≤ j → j < i + m → p j = q j) → cntF p i m a = cntF q i m a
  | 0, _, _, _ => rfl
  | m + 1, i, a, h => by
    rw [cntF, cntF, h i (Nat.le_refl _) (by omega)]
    exact cntF_congr m (i + 1) _ (fun j h1 h2 => h j (by omega) (by omega))
theorem hs_sayable_loop {H : HV} {i : Nat} {w : sm_Mem} (h : CH w H) (hok : HOk H) (hi : i < hN H) : ∀ (m x F : Nat) (a : Int32), x + m = 6 → m < F → ff_hs_sayable_4_f F (u32 i) a (u32 x) w = some (.int (orF (canV H i) x m a), w) := by
  intro m
  induction m with
  | zero =>
    intro x F a hm hF
    obtain ⟨F, rfl⟩ : ∃ G, F = G + 1 := ⟨F - 1, by omega⟩
    rw [ff_hs_sayable_4_f]
    unfold ff_hs_sayable_4_b
    simp (disch := omega) only [u32_lit, sm_let_eq, sm_bind_some, sm_cI_some, sm_cV_some, sm_cL_some, sm_rd_u, sm_wr_u, u32_add, u32_mul, u32_sub, u32_le, u32_lt, u32_eq, u32_eq_neg, u32_neg_eq, u32_neg_neg, u32_le_neg, u32_neg_lt, u32_lt_neg, u32_neg_le, u10, u01, u3n0, u1n0, u4n0, n9_lt, n1_lt, n9_neg, n1_neg, if_true, if_false, if_pos, if_neg, ne_eq, not_true_eq_false, not_false_eq_true, orF]
  | succ m ih =>
    intro x F a hm hF
    obtain ⟨F, rfl⟩ : ∃ G, F = G + 1 := ⟨F - 1, by omega⟩
    rw [ff_hs_sayable_4_f]
    unfold ff_hs_sayable_4_b
    have hx : x < 6 := by omega
    simp (disch := omega) only [u32_lit, u32_le, if_neg, ho_can h hok hi hx, sm_cI_some, u32_bool_eq0, u32_add, orF]
    cases canV H i x with
    | false =>
      rw [if_pos rfl, ih (x + 1) F a (by omega) (by omega)]
      rfl
    | true =>
      rw [if_neg (by decide), ih (x + 1) F _ (by omega) (by omega)]
      rfl
def sayF (H : HV) (i : Nat) : Int32 := orF (canV H i) 0 6 (u32 0)
theorem hs_sayable {H : HV} {i : Nat} {w : sm_Mem} (h : CH w H) (hok : HOk H) (hi : i < hN H) : ff_hs_sayable (u32 i) w = some (.int (sayF H i), w) := by
  unfold ff_hs_sayable ff_hs_sayable_4
  rw [sm_N_eq, u32_lit]
  exact hs_sayable_loop h hok hi 6 0 1000000 _ (by omega) (by omega)
theorem ho_who_loop {H : HV} {x : Nat} {w : sm_Mem} (h : CH w H) (hok : HOk H) (hx : x < 6) : ∀ (m i F : Nat) (a : Int32), i + m = hN H → m < F → ff_ho_who_15_f F (u32 x) a (u32 i) w = some (.int (orF (fun i => canV H i x) i m a), w) := by
  have h6 := hok.1
  intro m
  induction m with
  | zero =>
    intro i F a hm hF
    obtain ⟨F, rfl⟩ : ∃ G, F = G + 1 := ⟨F - 1, by omega⟩
    rw [ff_ho_who_15_f]
    unfold ff_ho_who_15_b
    simp (disch := omega) only [u32_lit, sm_let_eq, sm_bind_some, sm_cI_some, sm_cV_some, sm_cL_some, sm_rd_u, sm_wr_u, u32_add, u32_mul, u32_sub, u32_le, u32_lt, u32_eq, u32_eq_neg, u32_neg_eq, u32_neg_neg, u32_le_neg, u32_neg_lt, u32_lt_neg, u32_neg_le, u10, u01, u3n0, u1n0, u4n0, n9_lt, n1_lt, n9_neg, n1_neg, if_true, if_false, if_pos, if_neg, ne_eq, not_true_eq_false, not_false_eq_true, orF, h.1]
  | succ m ih =>
    intro i F a hm hF
    obtain ⟨F, rfl⟩ : ∃ G, F = G + 1 := ⟨F - 1, by omega⟩
    rw [ff_ho_who_15_f]
    unfold ff_ho_who_15_b
    have hi : i < hN H := by omega
    simp (disch := omega) only [u32_lit, h.1, u32_le, if_neg, ho_can h hok hi hx, sm_cI_some, u32_bool_eq0, u32_add, orF]
    by_cases hcv : canV H i x = true
    · rw [if_neg (by rw [hcv]; decide), if_pos hcv]
      exact ih (i + 1) F _ (by omega) (by omega)
    · have hcf : canV H i x = false := by simpa using hcv
      rw [if_pos hcf, if_neg hcv]
      exact ih (i + 1) F _ (by omega) (by omega)
/-! the order's words by number -/
def ordAt (od : List (Nat × Nat)) (k : Nat) : Nat × Nat := od.getD (od.length - 1 - k) (0, 0)
theorem ordC_at {w : sm_Mem} : ∀ (od : List (Nat × Nat)) (k : Nat), k < od.length → ordC w od → w.1 43 k = u32 (ordAt od k).1 ∧ w.1 44 k = u32 (ordAt od k).2
  | [], k, hk, _ => absurd hk (Nat.not_lt_zero _)
  | p :: r, k, hk, h => by
    rw [List.length_cons] at hk
    by_cases e : k = r.length
    · subst e
      unfold ordAt
      rw [List.length_cons, show r.length + 1 - 1 - r.length = 0 by omega]
      exact ⟨h.1, h.2.1⟩
    · have := ordC_at r k (by omega) h.2.2
      unfold ordAt at this ⊢
      rw [List.length_cons, show r.length + 1 - 1 - k = (r.length - 1 - k) + 1 by omega]
      exact this
theorem ordAt_ok {H : HV} (hok : HOk H) {k : Nat} (hk : k < (hO H).length) : (ordAt (hO H) k).1 < 6 ∧ (ordAt (hO H) k).2 < hN H := by
  refine hok.2.2.2.2 _ ?_
  unfold ordAt
  rw [List.getD_eq_getElem?_getD, List.getElem?_eq_getElem (by omega)]
  exact List.getElem_mem _
