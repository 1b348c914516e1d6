/-! pure: who, what, said, speaker -/
def orF (p : Nat → Bool) : Nat → Nat → Int32 → Int32
  | _, 0, a => a
  | i, m + 1, a => orF p (i + 1) m (if p i then a ||| (u32 1 <<< (u32 i &&& u32 31)) else a)
def cntF (p : Nat → Bool) : Nat → Nat → Int32 → Int32
  | _, 0, a => a
  | i, m + 1, a => cntF p (i + 1) m (if p i then a + u32 1 else a)
theorem or_u0 (x : Int32) : x ||| u32 0 = x := Int32.or_zero
theorem add_u0 (x : Int32) : x + u32 0 = x := Int32.add_zero x
theorem orF_congr {p q : Nat → Bool} : ∀ (m i : Nat) (a : Int32), (∀ j, i ≤ j → j < i + m → p j = q j) → orF p i m a = orF q i m a
  | 0, _, _, _ => rfl
  | m + 1, i, a, h => by
    rw [orF, orF, h i (Nat.le_refl _) (by omega)]
    exact orF_congr m (i + 1) _ (fun j h1 h2 => h j (by omega) (by omega))
theorem cntF_congr {p q : Nat → Bool} : ∀ (m i : Nat) (a : Int32), (∀ j, i ≤ j → j < i + m → p j = q j) → cntF p i m a = cntF q i m a
  | 0, _, _, _ => rfl
  | m + 1, i, a, h => by
    rw [cntF, cntF, h i (Nat.le_refl _) (by omega)]
    exact cntF_congr m (i + 1) _ (fun j h1 h2 => h j (by omega) (by omega))
theorem hs_sayable_loop {H : HV} {i : Nat} {w : sm_Mem} (h : CH w H) (hok : HOk H) (hi : i < hN H) : ∀ (m x F : Nat) (a : Int32), x + m = 6 → m < F → ff_hs_sayable_4_f F (u32 i) a (u32 x) w = some (.int (orF (canV H i) x m a), w) := by
  intro m
  induction m with
  | zero =>
    intro x F a hm hF
    obtain ⟨F, rfl⟩ : ∃ G, F = G + 1 := ⟨F - 1, by omega⟩
    rw [ff_hs_sayable_4_f]
    unfold ff_hs_sayable_4_b
    simp (disch := omega) only [u32_lit, sm_let_eq, sm_bind_some, sm_cI_some, sm_cV_some, sm_cL_some, sm_rd_u, sm_wr_u, u32_add, u32_mul, u32_sub, u32_le, u32_lt, u32_eq, u32_eq_neg, u32_neg_eq, u32_neg_neg, u32_le_neg, u32_neg_lt, u32_lt_neg, u32_neg_le, u10, u01, u3n0, u1n0, u4n0, n9_lt, n1_lt, n9_neg, n1_neg, if_true, if_false, if_pos, if_neg, ne_eq, not_true_eq_false, not_false_eq_true, orF]
  | succ m ih =>
    intro x F a hm hF
    obtain ⟨F, rfl⟩ : ∃ G, F = G + 1 := ⟨F - 1, by omega⟩
    rw [ff_hs_sayable_4_f]
    unfold ff_hs_sayable_4_b
    have hx : x < 6 := by omega
    simp (disch := omega) only [u32_lit, u32_le, if_neg, ho_can h hok hi hx, sm_cI_some, u32_bool_eq0, u32_add, orF]
    cases canV H i x with
    | false =>
      rw [if_pos rfl, ih (x + 1) F a (by omega) (by omega)]
      rfl
    | true =>
      rw [if_neg (by decide), ih (x + 1) F _ (by omega) (by omega)]
      rfl
def sayF (H : HV) (i : Nat) : Int32 := orF (canV H i) 0 6 (u32 0)
theorem hs_sayable {H : HV} {i : Nat} {w : sm_Mem} (h : CH w H) (hok : HOk H) (hi : i < hN H) : ff_hs_sayable (u32 i) w = some (.int (sayF H i), w) := by
  unfold ff_hs_sayable ff_hs_sayable_4
  rw [sm_N_eq, u32_lit]
  exact hs_sayable_loop h hok hi 6 0 1000000 _ (by omega) (by omega)
theorem mo_whatCan_loop {H : HV} {b i : Nat} {w : sm_Mem} (h : MH w b H) (hok : HOk H) (hb : b ≤ 5152) (hi : i < hN H) : ∀ (m x F : Nat) (a : Int32), x + m = 6 → m < F → ff_mo_whatCan_5_f F (u32 b) (u32 i) a (u32 x) w = some (.int (orF (canV H i) x m a), w) := by
  intro m
  induction m with
  | zero =>
    intro x F a hm hF
    obtain ⟨F, rfl⟩ : ∃ G, F = G + 1 := ⟨F - 1, by omega⟩
    rw [ff_mo_whatCan_5_f]
    unfold ff_mo_whatCan_5_b
    simp (disch := omega) only [u32_lit, sm_let_eq, sm_bind_some, sm_cI_some, sm_cV_some, sm_cL_some, sm_rd_u, sm_wr_u, u32_add, u32_mul, u32_sub, u32_le, u32_lt, u32_eq, u32_eq_neg, u32_neg_eq, u32_neg_neg, u32_le_neg, u32_neg_lt, u32_lt_neg, u32_neg_le, u10, u01, u3n0, u1n0, u4n0, n9_lt, n1_lt, n9_neg, n1_neg, if_true, if_false, if_pos, if_neg, ne_eq, not_true_eq_false, not_false_eq_true, orF]
  | succ m ih =>
    intro x F a hm hF
    obtain ⟨F, rfl⟩ : ∃ G, F = G + 1 := ⟨F - 1, by omega⟩
    rw [ff_mo_whatCan_5_f]
    unfold ff_mo_whatCan_5_b ff_mo_whatCan_32
    have hx : x < 6 := by omega
    simp (disch := omega) only [u32_lit, u32_le, if_neg, mo_mayNext h hok hb hi hx, sm_cI_some, u32_bool_eq0, u32_add, orF, or_u0]
    cases canV H i x with
    | false =>
      rw [if_pos rfl, ih (x + 1) F a (by omega) (by omega)]
      rfl
    | true =>
      rw [if_neg (by decide), ih (x + 1) F _ (by omega) (by omega)]
      rfl
theorem mo_whatCan {H : HV} {b i : Nat} {w : sm_Mem} (h : MH w b H) (hok : HOk H) (hb : b ≤ 5152) (hi : i < hN H) : ff_mo_whatCan (u32 b) (u32 i) w = some (.int (sayF H i), w) := by
  unfold ff_mo_whatCan ff_mo_whatCan_5
  rw [sm_N_eq, u32_lit]
  exact mo_whatCan_loop h hok hb hi 6 0 1000000 _ (by omega) (by omega)
theorem ho_who_loop {H : HV} {x : Nat} {w : sm_Mem} (h : CH w H) (hok : HOk H) (hx : x < 6) : ∀ (m i F : Nat) (a : Int32), i + m = hN H → m < F → ff_ho_who_15_f F (u32 x) a (u32 i) w = some (.int (orF (fun i => canV H i x) i m a), w) := by
  have h6 := hok.1
  intro m
  induction m with
  | zero =>
    intro i F a hm hF
    obtain ⟨F, rfl⟩ : ∃ G, F = G + 1 := ⟨F - 1, by omega⟩
    rw [ff_ho_who_15_f]
    unfold ff_ho_who_15_b
    simp (disch := omega) only [u32_lit, sm_let_eq, sm_bind_some, sm_cI_some, sm_cV_some, sm_cL_some, sm_rd_u, sm_wr_u, u32_add, u32_mul, u32_sub, u32_le, u32_lt, u32_eq, u32_eq_neg, u32_neg_eq, u32_neg_neg, u32_le_neg, u32_neg_lt, u32_lt_neg, u32_neg_le, u10, u01, u3n0, u1n0, u4n0, n9_lt, n1_lt, n9_neg, n1_neg, if_true, if_false, if_pos, if_neg, ne_eq, not_true_eq_false, not_false_eq_true, orF, h.1]
  | succ m ih =>
    intro i F a hm hF
    obtain ⟨F, rfl⟩ : ∃ G, F = G + 1 := ⟨F - 1, by omega⟩
    rw [ff_ho_who_15_f]
    unfold ff_ho_who_15_b
    have hi : i < hN H := by omega
    simp (disch := omega) only [u32_lit, h.1, u32_le, if_neg, ho_can h hok hi hx, sm_cI_some, u32_bool_eq0, u32_add, orF]
    by_cases hcv : canV H i x = true
    · rw [if_neg (by rw [hcv]; decide), if_pos hcv]
      exact ih (i + 1) F _ (by omega) (by omega)
    · have hcf : canV H i x = false := by simpa using hcv
      rw [if_pos hcf, if_neg hcv]
      exact ih (i + 1) F _ (by omega) (by omega)
theorem mo_whoCan_loop {H : HV} {b x : Nat} {w : sm_Mem} (h : MH w b H) (hok : HOk H) (hb : b ≤ 5152) (hx : x < 6) : ∀ (m i F : Nat) (a : Int32), i + m = hN H → m < F → ff_mo_whoCan_5_f F (u32 b) (u32 x) a (u32 i) w = some (.int (orF (fun i => canV H i x) i m a), w) := by
  have h6 := hok.1
  intro m
  induction m with
  | zero =>
    intro i F a hm hF
    obtain ⟨F, rfl⟩ : ∃ G, F = G + 1 := ⟨F - 1, by omega⟩
    rw [ff_mo_whoCan_5_f]
    unfold ff_mo_whoCan_5_b
    simp (disch := omega) only [u32_lit, sm_let_eq, sm_bind_some, sm_cI_some, sm_cV_some, sm_cL_some, sm_rd_u, sm_wr_u, u32_add, u32_mul, u32_sub, u32_le, u32_lt, u32_eq, u32_eq_neg, u32_neg_eq, u32_neg_neg, u32_le_neg, u32_neg_lt, u32_lt_neg, u32_neg_le, u10, u01, u3n0, u1n0, u4n0, n9_lt, n1_lt, n9_neg, n1_neg, if_true, if_false, if_pos, if_neg, ne_eq, not_true_eq_false, not_false_eq_true, orF, h.1]
  | succ m ih =>
    intro i F a hm hF
    obtain ⟨F, rfl⟩ : ∃ G, F = G + 1 := ⟨F - 1, by omega⟩
    rw [ff_mo_whoCan_5_f]
    unfold ff_mo_whoCan_5_b ff_mo_whoCan_34
    have hi : i < hN H := by omega
    simp (disch := omega) only [u32_lit, h.1, u32_le, if_neg, mo_mayNext h hok hb hi hx, sm_cI_some, u32_bool_eq0, u32_add, orF, or_u0]
    by_cases hcv : canV H i x = true
    · rw [if_neg (by rw [hcv]; decide), if_pos hcv]
      exact ih (i + 1) F _ (by omega) (by omega)
    · have hcf : canV H i x = false := by simpa using hcv
      rw [if_pos hcf, if_neg hcv]
      exact ih (i + 1) F _ (by omega) (by omega)
theorem op_who {x : Int32} {w : sm_Mem} (h : R w) : Both (ff_ho_who x) (ff_mo_who x) R w := by
  obtain ⟨hc, B, ds, hh⟩ := id h
  obtain ⟨hok, hn, n1, n2, n6⟩ := hh.n
  obtain ⟨h1, h2, h3, h4, h5, h6, h7, h8, h9⟩ := id hh
  rcases aCases x 6 with hx | ⟨x, hx, -, rfl⟩
  · refine BothR_same h (-u32 1) ?_ ?_
    · unfold ff_ho_who
      simp (disch := omega) only [u32_lit, sm_let_eq, sm_bind_some, sm_cI_some, sm_cV_some, sm_cL_some, sm_rd_u, sm_wr_u, u32_add, u32_mul, u32_sub, u32_le, u32_lt, u32_eq, u32_eq_neg, u32_neg_eq, u32_neg_neg, u32_le_neg, u32_neg_lt, u32_lt_neg, u32_neg_le, u10, u01, u3n0, u1n0, u4n0, n9_lt, n1_lt, n9_neg, n1_neg, if_true, if_false, if_pos, if_neg, ne_eq, not_true_eq_false, not_false_eq_true, ho_within_bad hx]
    · unfold ff_mo_who
      simp (disch := omega) only [u32_lit, sm_let_eq, sm_bind_some, sm_cI_some, sm_cV_some, sm_cL_some, sm_rd_u, sm_wr_u, u32_add, u32_mul, u32_sub, u32_le, u32_lt, u32_eq, u32_eq_neg, u32_neg_eq, u32_neg_neg, u32_le_neg, u32_neg_lt, u32_lt_neg, u32_neg_le, u10, u01, u3n0, u1n0, u4n0, n9_lt, n1_lt, n9_neg, n1_neg, if_true, if_false, if_pos, if_neg, ne_eq, not_true_eq_false, not_false_eq_true, mo_isWord_bad hx]
  · refine BothR_same h (orF (fun i => canV (playV B ds).1 i x) 0 (hN (playV B ds).1) (u32 0)) ?_ ?_
    · unfold ff_ho_who
      simp (disch := omega) only [u32_lit, sm_let_eq, sm_bind_some, sm_cI_some, sm_cV_some, sm_cL_some, sm_rd_u, sm_wr_u, u32_add, u32_mul, u32_sub, u32_le, u32_lt, u32_eq, u32_eq_neg, u32_neg_eq, u32_neg_neg, u32_le_neg, u32_neg_lt, u32_lt_neg, u32_neg_le, u10, u01, u3n0, u1n0, u4n0, n9_lt, n1_lt, n9_neg, n1_neg, if_true, if_false, if_pos, if_neg, ne_eq, not_true_eq_false, not_false_eq_true, ho_within_good hx]
      unfold ff_ho_who_15
      rw [sm_N_eq]
      exact ho_who_loop h6.1 hok hx _ 0 1000000 _ (by omega) (by omega)
    · unfold ff_mo_who ff_mo_whoCan ff_mo_whoCan_5
      simp (disch := omega) only [u32_lit, sm_let_eq, sm_bind_some, sm_cI_some, sm_cV_some, sm_cL_some, sm_rd_u, sm_wr_u, u32_add, u32_mul, u32_sub, u32_le, u32_lt, u32_eq, u32_eq_neg, u32_neg_eq, u32_neg_neg, u32_le_neg, u32_neg_lt, u32_lt_neg, u32_neg_le, u10, u01, u3n0, u1n0, u4n0, n9_lt, n1_lt, n9_neg, n1_neg, if_true, if_false, if_pos, if_neg, ne_eq, not_true_eq_false, not_false_eq_true, mo_isWord_good hx]
      rw [sm_N_eq, mo_whoCan_loop h8.2.1.1 hok (by decide) hx (hN (playV B ds).1) 0 1000000 _ (by omega) (by omega)]
      rfl
theorem op_what {i : Int32} {w : sm_Mem} (h : R w) : Both (ff_ho_what i) (ff_mo_what i) R w := by
  obtain ⟨hc, B, ds, hh⟩ := id h
  obtain ⟨hok, hn, n1, n2, n6⟩ := hh.n
  obtain ⟨h1, h2, h3, h4, h5, h6, h7, h8, h9⟩ := id hh
  rcases aCases i B.1 with hi | ⟨i, hi, -, rfl⟩
  · refine BothR_same h (-u32 1) ?_ ?_
    · unfold ff_ho_what
      simp (disch := omega) only [u32_lit, sm_let_eq, sm_bind_some, sm_cI_some, sm_cV_some, sm_cL_some, sm_rd_u, sm_wr_u, u32_add, u32_mul, u32_sub, u32_le, u32_lt, u32_eq, u32_eq_neg, u32_neg_eq, u32_neg_neg, u32_le_neg, u32_neg_lt, u32_lt_neg, u32_neg_le, u10, u01, u3n0, u1n0, u4n0, n9_lt, n1_lt, n9_neg, n1_neg, if_true, if_false, if_pos, if_neg, ne_eq, not_true_eq_false, not_false_eq_true, ho_isSpeaker_bad n1 n6 hi]
    · unfold ff_mo_what
      simp (disch := omega) only [u32_lit, sm_let_eq, sm_bind_some, sm_cI_some, sm_cV_some, sm_cL_some, sm_rd_u, sm_wr_u, u32_add, u32_mul, u32_sub, u32_le, u32_lt, u32_eq, u32_eq_neg, u32_neg_eq, u32_neg_neg, u32_le_neg, u32_neg_lt, u32_lt_neg, u32_neg_le, u10, u01, u3n0, u1n0, u4n0, n9_lt, n1_lt, n9_neg, n1_neg, if_true, if_false, if_pos, if_neg, ne_eq, not_true_eq_false, not_false_eq_true, mo_isSpeaker_bad n2 n6 hi]
  · have hi' : i < hN (playV B ds).1 := by omega
    refine BothR_same h (sayF (playV B ds).1 i) ?_ ?_
    · unfold ff_ho_what
      simp (disch := omega) only [u32_lit, sm_let_eq, sm_bind_some, sm_cI_some, sm_cV_some, sm_cL_some, sm_rd_u, sm_wr_u, u32_add, u32_mul, u32_sub, u32_le, u32_lt, u32_eq, u32_eq_neg, u32_neg_eq, u32_neg_neg, u32_le_neg, u32_neg_lt, u32_lt_neg, u32_neg_le, u10, u01, u3n0, u1n0, u4n0, n9_lt, n1_lt, n9_neg, n1_neg, if_true, if_false, if_pos, if_neg, ne_eq, not_true_eq_false, not_false_eq_true, ho_isSpeaker_good n1 n6 hi, hs_sayable h6.1 hok hi']
    · unfold ff_mo_what
      simp (disch := omega) only [u32_lit, sm_let_eq, sm_bind_some, sm_cI_some, sm_cV_some, sm_cL_some, sm_rd_u, sm_wr_u, u32_add, u32_mul, u32_sub, u32_le, u32_lt, u32_eq, u32_eq_neg, u32_neg_eq, u32_neg_neg, u32_le_neg, u32_neg_lt, u32_lt_neg, u32_neg_le, u10, u01, u3n0, u1n0, u4n0, n9_lt, n1_lt, n9_neg, n1_neg, if_true, if_false, if_pos, if_neg, ne_eq, not_true_eq_false, not_false_eq_true, mo_isSpeaker_good n2 n6 hi, mo_whatCan h8.2.1.1 hok (show 0 ≤ 5152 by omega) hi']
/-! the order's words by number -/
def ordAt (od : List (Nat × Nat)) (k : Nat) : Nat × Nat := od.getD (od.length - 1 - k) (0, 0)
theorem ordC_at {w : sm_Mem} : ∀ (od : List (Nat × Nat)) (k : Nat), k < od.length → ordC w od → w.1 43 k = u32 (ordAt od k).1 ∧ w.1 44 k = u32 (ordAt od k).2
  | [], k, hk, _ => absurd hk (Nat.not_lt_zero _)
  | p :: r, k, hk, h => by
    rw [List.length_cons] at hk
    by_cases e : k = r.length
    · subst e
      unfold ordAt
      rw [List.length_cons, show r.length + 1 - 1 - r.length = 0 by omega]
      exact ⟨h.1, h.2.1⟩
    · have := ordC_at r k (by omega) h.2.2
      unfold ordAt at this ⊢
      rw [List.length_cons, show r.length + 1 - 1 - k = (r.length - 1 - k) + 1 by omega]
      exact this
theorem ordM_at {w : sm_Mem} {b : Nat} : ∀ (od : List (Nat × Nat)) (k : Nat), k < od.length → ordM w b od → w.1 63 (b + 4 + k) = u32 (ordAt od k).1 ∧ w.1 63 (b + 12 + k) = u32 (ordAt od k).2
  | [], k, hk, _ => absurd hk (Nat.not_lt_zero _)
  | p :: r, k, hk, h => by
    rw [List.length_cons] at hk
    by_cases e : k = r.length
    · subst e
      unfold ordAt
      rw [List.length_cons, show r.length + 1 - 1 - r.length = 0 by omega]
      exact ⟨h.1, h.2.1⟩
    · have := ordM_at r k (by omega) h.2.2
      unfold ordAt at this ⊢
      rw [List.length_cons, show r.length + 1 - 1 - k = (r.length - 1 - k) + 1 by omega]
      exact this
theorem ordAt_ok {H : HV} (hok : HOk H) {k : Nat} (hk : k < (hO H).length) : (ordAt (hO H) k).1 < 6 ∧ (ordAt (hO H) k).2 < hN H := by
  refine hok.2.2.2.2 _ ?_
  unfold ordAt
  rw [List.getD_eq_getElem?_getD, List.getElem?_eq_getElem (by omega)]
  exact List.getElem_mem _
/-- told by class and reference alike -/
theorem R_tell {w : sm_Mem} {x : Int32} (h : R w) : R (sm_wI (sm_wI w 60 0 x) 62 9 x) := by
  refine R_of_cells h ⟨RRows_fr (fun a ha => ?_) h.1.1, RTexts_fr (fun a ha => ?_) h.1.2.1, ?_, fun a ha => ?_, ?_⟩
  · simp (disch := omega) only [sm_wI_ne, sm_wI_nj, sm_wI_eq, sm_wA_ne, sm_wA_eq]
  · simp (disch := omega) only [sm_wI_ne, sm_wI_nj, sm_wI_eq, sm_wA_ne, sm_wA_eq]
  · obtain ⟨h1, h2, h3, h4, h5⟩ := h.1.2.2
    refine ⟨?_, h2, h3, ?_, fun f hf => ?_⟩
    · simp (disch := omega) only [sm_wI_ne, sm_wI_nj, sm_wI_eq, sm_wA_ne, sm_wA_eq]
    · simp (disch := omega) only [sm_wI_ne, sm_wI_nj, sm_wI_eq, sm_wA_ne, sm_wA_eq]
      exact h4
    · simp (disch := omega) only [sm_wI_ne, sm_wI_nj, sm_wI_eq, sm_wA_ne, sm_wA_eq]
      exact h5 f hf
  · simp (disch := omega) only [sm_wI_ne, sm_wI_nj, sm_wI_eq, sm_wA_ne, sm_wA_eq]
  · simp (disch := omega) only [sm_wI_ne, sm_wI_nj, sm_wI_eq, sm_wA_ne, sm_wA_eq]
theorem op_said {k : Int32} {w : sm_Mem} (h : R w) : Both (ff_ho_said k) (ff_mo_said k) R w := by
  obtain ⟨hc, B, ds, hh⟩ := id h
  obtain ⟨hok, hn, n1, n2, n6⟩ := hh.n
  obtain ⟨h1, h2, h3, h4, h5, h6, h7, h8, h9⟩ := id hh
  have c1 := h6.1.2.2.2.1
  have m1 := h8.2.1.1.2.2.2.1
  rw [Nat.zero_add] at m1
  have l8 := hok.2.2.2.1
  rcases aCases k (hO (playV B ds).1).length with hk | ⟨k, hk, -, rfl⟩
  · have hq : ∀ w, ff_mo_in k.toInt64 0 (u32 (hO (playV B ds).1).length - u32 1).toInt64 w = some (.int (u32 0), w) := fun w => mo_in_bad hk (u32_pred (by omega))
    refine BothR_same h (-u32 1) ?_ ?_
    · unfold ff_ho_said
      simp (disch := omega) only [u32_lit, c1, ho_within_bad hk, sm_cI_some, if_true]
    · unfold ff_mo_said
      simp (disch := omega) only [u32_lit, sm_rd_u, sm_bind_some, m1]
      rw [hq]
      rfl
  · have hq : ∀ w, ff_mo_in (u32 k).toInt64 0 (u32 (hO (playV B ds).1).length - u32 1).toInt64 w = some (.int (u32 1), w) := fun w => mo_in_good hk (by omega) (u32_pred (by omega))
    have e1 := ordC_at _ k hk h6.1.2.2.2.2
    have e2 := ordM_at _ k hk h8.2.1.1.2.2.2.2
    rw [Nat.zero_add, Nat.zero_add] at e2
    refine Both_mk (.int (u32 (ordAt (hO (playV B ds).1) k).1)) (sm_wI w 60 0 (u32 (ordAt (hO (playV B ds).1) k).2)) _ ?_ ?_ (R_tell (x := u32 (ordAt (hO (playV B ds).1) k).2) h)
    · unfold ff_ho_said
      simp (disch := omega) only [u32_lit, c1, ho_within_good hk, sm_cI_some, u10, if_false, sm_rd_u, sm_bind_some, e1.2, sm_let_eq, sm_wI_ne, sm_wI_nj, sm_wI_eq, sm_wA_ne, sm_wA_eq, e1.1]
    · unfold ff_mo_said
      simp (disch := omega) only [u32_lit, sm_rd_u, sm_bind_some, sm_wI_ne, sm_wI_nj, sm_wI_eq, sm_wA_ne, sm_wA_eq, m1]
      rw [hq]
      simp (disch := omega) only [sm_cI_some, u10, if_false, u32_add, sm_rd_u, sm_bind_some, sm_wI_ne, sm_wI_nj, sm_wI_eq, sm_wA_ne, sm_wA_eq, e2.2, sm_let_eq, e2.1]
