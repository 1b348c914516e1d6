/-! pure: speaker, mark -/
theorem hs_saidBy_loop {H : HV} {i : Nat} {w : sm_Mem} (h : CH w H) (hok : HOk H) (hi : i < 6) : ∀ (m k F : Nat) (a : Int32), k + m = (hO H).length → m < F → ff_hs_saidBy_4_f F (u32 i) a (u32 k) w = some (.int (cntF (fun k => decide ((ordAt (hO H) k).2 = i)) k m a), w) := by
  have h8 := hok.2.2.2.1
  have h6 := hok.1
  intro m
  induction m with
  | zero =>
    intro k F a hm hF
    obtain ⟨F, rfl⟩ : ∃ G, F = G + 1 := ⟨F - 1, by omega⟩
    rw [ff_hs_saidBy_4_f]
    unfold ff_hs_saidBy_4_b
    simp (disch := omega) only [u32_lit, sm_let_eq, sm_bind_some, sm_cI_some, sm_cV_some, sm_cL_some, sm_rd_u, sm_wr_u, u32_add, u32_mul, u32_sub, u32_le, u32_lt, u32_eq, u32_eq_neg, u32_neg_eq, u32_neg_neg, u32_le_neg, u32_neg_lt, u32_lt_neg, u32_neg_le, u10, u01, u3n0, u1n0, u4n0, n9_lt, n1_lt, n9_neg, n1_neg, if_true, if_false, if_pos, if_neg, ne_eq, not_true_eq_false, not_false_eq_true, cntF, h.2.2.2.1]
  | succ m ih =>
    intro k F a hm hF
    obtain ⟨F, rfl⟩ : ∃ G, F = G + 1 := ⟨F - 1, by omega⟩
    have hk : k < (hO H).length := by omega
    have hp := ordAt_ok hok hk
    rw [ff_hs_saidBy_4_f]
    unfold ff_hs_saidBy_4_b
    simp (disch := omega) only [u32_lit, h.2.2.2.1, u32_le, if_neg, sm_rd_u, sm_bind_some, (ordC_at _ k hk h.2.2.2.2).2, u32_eq, u32_add, cntF, decide_eq_true_eq]
    by_cases e : (ordAt (hO H) k).2 = i
    · rw [if_pos e, if_pos e]
      exact ih (k + 1) F _ (by omega) (by omega)
    · rw [if_neg e, if_neg e]
      exact ih (k + 1) F _ (by omega) (by omega)
theorem mo_said_loop {H : HV} {i : Nat} {w : sm_Mem} (h : MH w 0 H) (hok : HOk H) (hi : i < 6) : ∀ (m k F : Nat) (a : Int32), k + m = (hO H).length → m < F → ff_mo_toldOf_80_f F (u32 i) a (u32 k) w = some (.int (cntF (fun k => decide ((ordAt (hO H) k).2 = i)) k m a), w) := by
  have h8 := hok.2.2.2.1
  have h6 := hok.1
  have hl := h.2.2.2.1
  rw [Nat.zero_add] at hl
  intro m
  induction m with
  | zero =>
    intro k F a hm hF
    obtain ⟨F, rfl⟩ : ∃ G, F = G + 1 := ⟨F - 1, by omega⟩
    rw [ff_mo_toldOf_80_f]
    unfold ff_mo_toldOf_80_b
    simp (disch := omega) only [u32_lit, sm_let_eq, sm_bind_some, sm_cI_some, sm_cV_some, sm_cL_some, sm_rd_u, sm_wr_u, u32_add, u32_mul, u32_sub, u32_le, u32_lt, u32_eq, u32_eq_neg, u32_neg_eq, u32_neg_neg, u32_le_neg, u32_neg_lt, u32_lt_neg, u32_neg_le, u10, u01, u3n0, u1n0, u4n0, n9_lt, n1_lt, n9_neg, n1_neg, if_true, if_false, if_pos, if_neg, ne_eq, not_true_eq_false, not_false_eq_true, cntF, hl]
  | succ m ih =>
    intro k F a hm hF
    obtain ⟨F, rfl⟩ : ∃ G, F = G + 1 := ⟨F - 1, by omega⟩
    have hk : k < (hO H).length := by omega
    have hp := ordAt_ok hok hk
    have e2 := (ordM_at _ k hk h.2.2.2.2).2
    rw [Nat.zero_add] at e2
    rw [ff_mo_toldOf_80_f]
    unfold ff_mo_toldOf_80_b ff_mo_toldOf_111
    simp (disch := omega) only [u32_lit, hl, u32_le, if_neg, sm_rd_u, sm_bind_some, e2, u32_eq, u32_add, cntF, decide_eq_true_eq, add_u0]
    by_cases e : (ordAt (hO H) k).2 = i
    · rw [if_pos e, if_pos e]
      exact ih (k + 1) F _ (by omega) (by omega)
    · rw [if_neg e, if_neg e]
      exact ih (k + 1) F _ (by omega) (by omega)
def factV (B : HBase) (H : HV) (i : Nat) : Nat → Int32
  | 0 => u32 (hK H i)
  | 1 => u32 (hW H i)
  | 2 => u32 (hR H i)
  | 3 => u32 (B.2.2.2.2 i)
  | 4 => u32 (hB H i)
  | _ => cntF (fun k => decide ((ordAt (hO H) k).2 = i)) 0 (hO H).length (u32 0)
theorem hs_factOf {B : HBase} {H : HV} {i x : Nat} {w : sm_Mem} (h : CH w H) (hok : HOk H) (hb : CB w B) (hn : hN H = B.1) (hi : i < hN H) (hx : x < 6) : ff_hs_factOf (u32 i) (u32 x) w = some (.int (factV B H i x), w) := by
  have h6 := hok.1
  obtain ⟨a1, a2, a3, a4⟩ := h.2.1 i hi
  have a5 := (hb i (by omega)).2
  have hs : ff_hs_saidBy (u32 i) w = some (.int (cntF (fun k => decide ((ordAt (hO H) k).2 = i)) 0 (hO H).length (u32 0)), w) := by
    unfold ff_hs_saidBy ff_hs_saidBy_4
    rw [sm_N_eq, u32_lit]
    exact hs_saidBy_loop h hok (by omega) _ 0 1000000 _ (by omega) (by have := hok.2.2.2.1; omega)
  unfold ff_hs_factOf
  have e0 : sm_sw (u32 x) 0 = sm_sw (u32 x) ((0 : Nat) : Int) := rfl
  simp (disch := omega) only [e0, sm_sw_u, sm_rd_u, sm_bind_some, a1, a2, a3, a4, a5, hs, sm_cI_some]
  rcases (show x = 0 ∨ x = 1 ∨ x = 2 ∨ x = 3 ∨ x = 4 ∨ x = 5 by omega) with rfl | rfl | rfl | rfl | rfl | rfl <;> rfl
theorem mo_toldOf {B : HBase} {H : HV} {i x : Nat} {w : sm_Mem} (h : MH w 0 H) (hok : HOk H) (hb : MB w B) (hn : hN H = B.1) (hi : i < hN H) (hx : x < 6) : ff_mo_toldOf (u32 i) (u32 x) w = some (.int (factV B H i x), w) := by
  have h6 := hok.1
  obtain ⟨a1, a2, a3, a4⟩ := h.2.1 i hi
  rw [Nat.zero_add] at a3 a4
  have a5 := hb i (by omega)
  have hs : ff_mo_toldOf_80 (u32 i) (u32 0) (u32 0) w = some (.int (cntF (fun k => decide ((ordAt (hO H) k).2 = i)) 0 (hO H).length (u32 0)), w) := by
    unfold ff_mo_toldOf_80
    rw [sm_N_eq]
    exact mo_said_loop h hok (by omega) _ 0 1000000 _ (by omega) (by have := hok.2.2.2.1; omega)
  unfold ff_mo_toldOf
  have e0 : sm_sw (u32 x) 0 = sm_sw (u32 x) ((0 : Nat) : Int) := rfl
  simp (disch := omega) only [u32_lit, e0, sm_sw_u, sm_rd_u, sm_bind_some, u32_add, a1, a2, a3, a4, a5, hs]
  rcases (show x = 0 ∨ x = 1 ∨ x = 2 ∨ x = 3 ∨ x = 4 ∨ x = 5 by omega) with rfl | rfl | rfl | rfl | rfl | rfl <;> rfl
theorem op_speaker {i x : Int32} {w : sm_Mem} (h : R w) : Both (ff_ho_speaker i x) (ff_mo_speaker i x) R w := by
  obtain ⟨hc, B, ds, hh⟩ := id h
  obtain ⟨hok, hn, n1, n2, n6⟩ := hh.n
  obtain ⟨h1, h2, h3, h4, h5, h6, h7, h8, h9⟩ := id hh
  rcases aCases i B.1 with hi | ⟨i, hi, -, rfl⟩
  · refine BothR_same h (-u32 1) ?_ ?_
    · unfold ff_ho_speaker
      simp (disch := omega) only [u32_lit, sm_let_eq, sm_bind_some, sm_cI_some, sm_cV_some, sm_cL_some, sm_rd_u, sm_wr_u, u32_add, u32_mul, u32_sub, u32_le, u32_lt, u32_eq, u32_eq_neg, u32_neg_eq, u32_neg_neg, u32_le_neg, u32_neg_lt, u32_lt_neg, u32_neg_le, u10, u01, u3n0, u1n0, u4n0, n9_lt, n1_lt, n9_neg, n1_neg, if_true, if_false, if_pos, if_neg, ne_eq, not_true_eq_false, not_false_eq_true, ho_isSpeaker_bad n1 n6 hi]
    · unfold ff_mo_speaker
      simp (disch := omega) only [u32_lit, sm_let_eq, sm_bind_some, sm_cI_some, sm_cV_some, sm_cL_some, sm_rd_u, sm_wr_u, u32_add, u32_mul, u32_sub, u32_le, u32_lt, u32_eq, u32_eq_neg, u32_neg_eq, u32_neg_neg, u32_le_neg, u32_neg_lt, u32_lt_neg, u32_neg_le, u10, u01, u3n0, u1n0, u4n0, n9_lt, n1_lt, n9_neg, n1_neg, if_true, if_false, if_pos, if_neg, ne_eq, not_true_eq_false, not_false_eq_true, mo_isSpeaker_bad n2 n6 hi]
  rcases aCases x 6 with hx | ⟨x, hx, -, rfl⟩
  · have hq : ∀ w, ff_mo_in x.toInt64 0 5 w = some (.int (u32 0), w) := fun w => mo_in_bad hx rfl
    refine BothR_same h (-u32 1) ?_ ?_
    · unfold ff_ho_speaker
      simp (disch := omega) only [u32_lit, sm_let_eq, sm_bind_some, sm_cI_some, sm_cV_some, sm_cL_some, sm_rd_u, sm_wr_u, u32_add, u32_mul, u32_sub, u32_le, u32_lt, u32_eq, u32_eq_neg, u32_neg_eq, u32_neg_neg, u32_le_neg, u32_neg_lt, u32_lt_neg, u32_neg_le, u10, u01, u3n0, u1n0, u4n0, n9_lt, n1_lt, n9_neg, n1_neg, if_true, if_false, if_pos, if_neg, ne_eq, not_true_eq_false, not_false_eq_true, ho_isSpeaker_good n1 n6 hi, ho_within_bad hx]
    · unfold ff_mo_speaker
      simp (disch := omega) only [u32_lit, sm_let_eq, sm_bind_some, sm_cI_some, sm_cV_some, sm_cL_some, sm_rd_u, sm_wr_u, u32_add, u32_mul, u32_sub, u32_le, u32_lt, u32_eq, u32_eq_neg, u32_neg_eq, u32_neg_neg, u32_le_neg, u32_neg_lt, u32_lt_neg, u32_neg_le, u10, u01, u3n0, u1n0, u4n0, n9_lt, n1_lt, n9_neg, n1_neg, if_true, if_false, if_pos, if_neg, ne_eq, not_true_eq_false, not_false_eq_true, mo_isSpeaker_good n2 n6 hi, hq]
  have hq : ∀ w, ff_mo_in (u32 x).toInt64 0 5 w = some (.int (u32 1), w) := fun w => mo_in_good hx (by decide) rfl
  have hi' : i < hN (playV B ds).1 := by omega
  refine Both_mk (.int (u32 1)) (sm_wI w 60 0 (factV B (playV B ds).1 i x)) _ ?_ ?_ (R_tell (x := factV B (playV B ds).1 i x) h)
  · unfold ff_ho_speaker
    simp (disch := omega) only [u32_lit, sm_let_eq, sm_bind_some, sm_cI_some, sm_cV_some, sm_cL_some, sm_rd_u, sm_wr_u, u32_add, u32_mul, u32_sub, u32_le, u32_lt, u32_eq, u32_eq_neg, u32_neg_eq, u32_neg_neg, u32_le_neg, u32_neg_lt, u32_lt_neg, u32_neg_le, u10, u01, u3n0, u1n0, u4n0, n9_lt, n1_lt, n9_neg, n1_neg, if_true, if_false, if_pos, if_neg, ne_eq, not_true_eq_false, not_false_eq_true, ho_isSpeaker_good n1 n6 hi, ho_within_good hx, hs_factOf h6.1 hok h2 hn hi' hx]
  · have hm : MH (sm_wI w 60 0 (factV B (playV B ds).1 i x)) 0 (playV B ds).1 := MH_fr hok (by simp (disch := omega) only [sm_wI_ne, sm_wI_nj, sm_wI_eq, sm_wA_ne, sm_wA_eq]) (by simp (disch := omega) only [sm_wI_ne, sm_wI_nj, sm_wI_eq, sm_wA_ne, sm_wA_eq]) (by simp (disch := omega) only [sm_wI_ne, sm_wI_nj, sm_wI_eq, sm_wA_ne, sm_wA_eq]) (fun j _ _ => by simp (disch := omega) only [sm_wI_ne, sm_wI_nj, sm_wI_eq, sm_wA_ne, sm_wA_eq]) h8.2.1.1
    have hb : MB (sm_wI w 60 0 (factV B (playV B ds).1 i x)) B := fun j hj => by simp (disch := omega) only [sm_wI_ne, sm_wI_nj, sm_wI_eq, sm_wA_ne, sm_wA_eq]; exact h3 j hj
    have n2' : (sm_wI w 60 0 (factV B (playV B ds).1 i x)).1 62 1 = u32 B.1 := by simp (disch := omega) only [sm_wI_ne, sm_wI_nj, sm_wI_eq, sm_wA_ne, sm_wA_eq]; exact n2
    unfold ff_mo_speaker ff_mo_tell
    simp (disch := omega) only [u32_lit, sm_let_eq, sm_bind_some, sm_cI_some, sm_cV_some, sm_cL_some, sm_rd_u, sm_wr_u, u32_add, u32_mul, u32_sub, u32_le, u32_lt, u32_eq, u32_eq_neg, u32_neg_eq, u32_neg_neg, u32_le_neg, u32_neg_lt, u32_lt_neg, u32_neg_le, u10, u01, u3n0, u1n0, u4n0, n9_lt, n1_lt, n9_neg, n1_neg, if_true, if_false, if_pos, if_neg, ne_eq, not_true_eq_false, not_false_eq_true, mo_isSpeaker_good n2' n6 hi, hq, mo_toldOf hm hok hb hn hi' hx]
/-! mark -/
def isOfV (a b : Nat) : Bool := decide (a = b ∨ b = 0 ∨ (a = 4 ∧ b = 3) ∨ (a = 5 ∧ b = 1))
theorem ho_isOf {a b : Nat} {w : sm_Mem} (ha : a < 6) (hb : b < 6) : ff_ho_isOf (u32 a) (u32 b) w = some (.int (u32 (isOfV a b).toNat), w) := by
  unfold ff_ho_isOf ff_ho_isOf_21 isOfV
  simp (disch := omega) only [u32_lit, u32_eq]
  repeat' split
  all_goals first | (rw [decide_eq_true (by omega)]; rfl) | (rw [decide_eq_false (by omega)]; rfl)
theorem mo_isOf {H : HV} {i b : Nat} {w : sm_Mem} (h : MH w 0 H) (hok : HOk H) (hi : i < hN H) (hb : b < 6) (hb0 : 0 < b) : ff_mo_isOf (u32 i) (u32 b) w = some (.int (u32 (isOfV (hK H i) b).toNat), w) := by
  have h6 := hok.1
  have hk := (hok.2.1 i hi).1
  unfold ff_mo_isOf ff_mo_isOf_22 isOfV
  simp (disch := omega) only [u32_lit, sm_rd_u, sm_bind_some, (h.2.1 i hi).1, u32_eq]
  repeat' split
  all_goals first | (rw [decide_eq_true (by omega)]; rfl) | (rw [decide_eq_false (by omega)]; rfl)
theorem hs_echoes_loop {H : HV} {i : Nat} {w : sm_Mem} (h : CH w H) (hok : HOk H) (hi : i < hN H) : ∀ (m x F : Nat) (a : Int32), x + m = 6 → m < F → ff_hs_echoesOf_4_f F (u32 i) a (u32 x) w = some (.int (cntF (fun x => !(hW H i).testBit x && ableV (hK H i) (hW H i) (hH H) (lastW (hO H)) x) x m a), w) := by
  have h6 := hok.1
  have hk := (hok.2.1 i hi).1
  have hv := (hok.2.1 i hi).2.1
  intro m
  induction m with
  | zero =>
    intro x F a hm hF
    obtain ⟨F, rfl⟩ : ∃ G, F = G + 1 := ⟨F - 1, by omega⟩
    rw [ff_hs_echoesOf_4_f]
    unfold ff_hs_echoesOf_4_b
    simp (disch := omega) only [u32_lit, sm_let_eq, sm_bind_some, sm_cI_some, sm_cV_some, sm_cL_some, sm_rd_u, sm_wr_u, u32_add, u32_mul, u32_sub, u32_le, u32_lt, u32_eq, u32_eq_neg, u32_neg_eq, u32_neg_neg, u32_le_neg, u32_neg_lt, u32_lt_neg, u32_neg_le, u10, u01, u3n0, u1n0, u4n0, n9_lt, n1_lt, n9_neg, n1_neg, if_true, if_false, if_pos, if_neg, ne_eq, not_true_eq_false, not_false_eq_true, cntF]
  | succ m ih =>
    intro x F a hm hF
    obtain ⟨F, rfl⟩ : ∃ G, F = G + 1 := ⟨F - 1, by omega⟩
    have hx : x < 6 := by omega
    rw [ff_hs_echoesOf_4_f]
    unfold ff_hs_echoesOf_4_b ff_hs_echoesOf_28
    simp (disch := omega) only [u32_lit, u32_le, if_neg, sm_rd_u, sm_bind_some, (h.2.1 i hi).2.1, (h.2.1 i hi).1, u32_bit hv hx, u32_bool_eq0, u10, if_false, if_true, ho_lastWord h hok, sm_cI_some, ho_isAble h hok hi hk hx hok.last, u32_add, cntF, Bool.and_eq_true, Bool.not_eq_true']
    by_cases e1 : (hW H i).testBit x = false
    · rw [if_pos e1]
      by_cases e2 : ableV (hK H i) (hW H i) (hH H) (lastW (hO H)) x = true
      · rw [if_neg (by rw [e2]; decide), if_pos ⟨e1, e2⟩]
        exact ih (x + 1) F _ (by omega) (by omega)
      · rw [if_pos (by simpa using e2), if_neg (fun q => e2 q.2)]
        exact ih (x + 1) F _ (by omega) (by omega)
    · rw [if_neg e1, if_neg (fun q => e1 q.1)]
      exact ih (x + 1) F _ (by omega) (by omega)
theorem mo_borrowed_loop {H : HV} {i : Nat} {w : sm_Mem} (h : MH w 0 H) (hok : HOk H) (hi : i < hN H) : ∀ (m x F : Nat) (a : Int32), x + m = 6 → m < F → ff_mo_borrowed_4_f F (u32 i) a (u32 x) w = some (.int (cntF (fun x => !(hW H i).testBit x && ableV (hK H i) (hW H i) (hH H) (lastW (hO H)) x) x m a), w) := by
  have h6 := hok.1
  have hk := (hok.2.1 i hi).1
  have hv := (hok.2.1 i hi).2.1
  have hh := h.2.2.1
  rw [Nat.zero_add] at hh
  intro m
  induction m with
  | zero =>
    intro x F a hm hF
    obtain ⟨F, rfl⟩ : ∃ G, F = G + 1 := ⟨F - 1, by omega⟩
    rw [ff_mo_borrowed_4_f]
    unfold ff_mo_borrowed_4_b
    simp (disch := omega) only [u32_lit, sm_let_eq, sm_bind_some, sm_cI_some, sm_cV_some, sm_cL_some, sm_rd_u, sm_wr_u, u32_add, u32_mul, u32_sub, u32_le, u32_lt, u32_eq, u32_eq_neg, u32_neg_eq, u32_neg_neg, u32_le_neg, u32_neg_lt, u32_lt_neg, u32_neg_le, u10, u01, u3n0, u1n0, u4n0, n9_lt, n1_lt, n9_neg, n1_neg, if_true, if_false, if_pos, if_neg, ne_eq, not_true_eq_false, not_false_eq_true, cntF]
  | succ m ih =>
    intro x F a hm hF
    obtain ⟨F, rfl⟩ : ∃ G, F = G + 1 := ⟨F - 1, by omega⟩
    have hx : x < 6 := by omega
    rw [ff_mo_borrowed_4_f]
    unfold ff_mo_borrowed_4_b ff_mo_borrowed_58 ff_mo_borrowed_59
    simp (disch := omega) only [u32_lit, u32_le, if_neg, sm_rd_u, sm_bind_some, (h.2.1 i hi).2.1, (h.2.1 i hi).1, mo_has hv hx, u32_bool_eq0, mo_lastWord h hok (show 0 ≤ 5152 by omega), hh, sm_cI_some, mo_isAble hk hv hx hok.last hok.2.2.1, u32_add, add_u0, cntF, Bool.and_eq_true, Bool.not_eq_true']
    by_cases e1 : (hW H i).testBit x = false
    · rw [if_pos e1]
      by_cases e2 : ableV (hK H i) (hW H i) (hH H) (lastW (hO H)) x = true
      · rw [if_neg (by rw [e2]; decide), if_pos ⟨e1, e2⟩]
        exact ih (x + 1) F _ (by omega) (by omega)
      · rw [if_pos (by simpa using e2), if_neg (fun q => e2 q.2)]
        exact ih (x + 1) F _ (by omega) (by omega)
    · rw [if_neg e1, if_neg (fun q => e1 q.1)]
      exact ih (x + 1) F _ (by omega) (by omega)
theorem hs_othersWho_loop {H : HV} {i : Nat} {w : sm_Mem} (h : CH w H) (hok : HOk H) (hi : i < hN H) : ∀ (m k F : Nat) (a : Int32), k + m = hN H → m < F → ff_hs_othersWhoCan_4_f F (u32 i) a (u32 k) w = some (.int (cntF (fun k => decide (k ≠ i ∧ ¬ sayF H k = u32 0)) k m a), w) := by
  have h6 := hok.1
  intro m
  induction m with
  | zero =>
    intro k F a hm hF
    obtain ⟨F, rfl⟩ : ∃ G, F = G + 1 := ⟨F - 1, by omega⟩
    rw [ff_hs_othersWhoCan_4_f]
    unfold ff_hs_othersWhoCan_4_b
    simp (disch := omega) only [u32_lit, sm_let_eq, sm_bind_some, sm_cI_some, sm_cV_some, sm_cL_some, sm_rd_u, sm_wr_u, u32_add, u32_mul, u32_sub, u32_le, u32_lt, u32_eq, u32_eq_neg, u32_neg_eq, u32_neg_neg, u32_le_neg, u32_neg_lt, u32_lt_neg, u32_neg_le, u10, u01, u3n0, u1n0, u4n0, n9_lt, n1_lt, n9_neg, n1_neg, if_true, if_false, if_pos, if_neg, ne_eq, not_true_eq_false, not_false_eq_true, cntF, h.1]
  | succ m ih =>
    intro k F a hm hF
    obtain ⟨F, rfl⟩ : ∃ G, F = G + 1 := ⟨F - 1, by omega⟩
    have hk : k < hN H := by omega
    rw [ff_hs_othersWhoCan_4_f]
    unfold ff_hs_othersWhoCan_4_b
    simp (disch := omega) only [u32_lit, h.1, u32_le, if_neg, u32_eq, hs_sayable h hok hk, sm_cI_some, u32_add, cntF, decide_eq_true_eq]
    by_cases e1 : k = i
    · rw [if_pos e1, if_neg (fun q => q.1 e1)]
      exact ih (k + 1) F _ (by omega) (by omega)
    · rw [if_neg e1]
      by_cases e2 : sayF H k = u32 0
      · rw [if_pos e2, if_neg (fun q => q.2 e2)]
        exact ih (k + 1) F _ (by omega) (by omega)
      · rw [if_neg e2, if_pos ⟨e1, e2⟩]
        exact ih (k + 1) F _ (by omega) (by omega)
theorem mo_othersWho_loop {H : HV} {i : Nat} {w : sm_Mem} (h : MH w 0 H) (hok : HOk H) (hi : i < hN H) : ∀ (m k F : Nat) (a : Int32), k + m = hN H → m < F → ff_mo_othersWhoCan_4_f F (u32 i) a (u32 k) w = some (.int (cntF (fun k => decide (k ≠ i ∧ ¬ sayF H k = u32 0)) k m a), w) := by
  have h6 := hok.1
  intro m
  induction m with
  | zero =>
    intro k F a hm hF
    obtain ⟨F, rfl⟩ : ∃ G, F = G + 1 := ⟨F - 1, by omega⟩
    rw [ff_mo_othersWhoCan_4_f]
    unfold ff_mo_othersWhoCan_4_b
    simp (disch := omega) only [u32_lit, sm_let_eq, sm_bind_some, sm_cI_some, sm_cV_some, sm_cL_some, sm_rd_u, sm_wr_u, u32_add, u32_mul, u32_sub, u32_le, u32_lt, u32_eq, u32_eq_neg, u32_neg_eq, u32_neg_neg, u32_le_neg, u32_neg_lt, u32_lt_neg, u32_neg_le, u10, u01, u3n0, u1n0, u4n0, n9_lt, n1_lt, n9_neg, n1_neg, if_true, if_false, if_pos, if_neg, ne_eq, not_true_eq_false, not_false_eq_true, cntF, h.1]
  | succ m ih =>
    intro k F a hm hF
    obtain ⟨F, rfl⟩ : ∃ G, F = G + 1 := ⟨F - 1, by omega⟩
    have hk : k < hN H := by omega
    rw [ff_mo_othersWhoCan_4_f]
    unfold ff_mo_othersWhoCan_4_b ff_mo_othersWhoCan_31 ff_mo_othersWhoCan_32
    simp (disch := omega) only [u32_lit, h.1, u32_le, if_neg, u32_eq, mo_whatCan h hok (show 0 ≤ 5152 by omega) hk, sm_cI_some, u32_add, add_u0, cntF, decide_eq_true_eq]
    by_cases e1 : k = i
    · rw [if_pos e1, if_neg (fun q => q.1 e1)]
      exact ih (k + 1) F _ (by omega) (by omega)
    · rw [if_neg e1]
      by_cases e2 : sayF H k = u32 0
      · rw [if_pos e2, if_neg (fun q => q.2 e2)]
        exact ih (k + 1) F _ (by omega) (by omega)
      · rw [if_neg e2, if_pos ⟨e1, e2⟩]
        exact ih (k + 1) F _ (by omega) (by omega)
theorem hs_othersIn_loop {H : HV} {i : Nat} {w : sm_Mem} (h : CH w H) (hok : HOk H) (hi : i < hN H) : ∀ (m k F : Nat) (a : Int32), k + m = hN H → m < F → ff_hs_othersInRoom_4_f F (u32 i) a (u32 k) w = some (.int (cntF (fun k => decide (k ≠ i ∧ hR H k = hR H i)) k m a), w) := by
  have h6 := hok.1
  have hri := (hok.2.1 i hi).2.2.1
  intro m
  induction m with
  | zero =>
    intro k F a hm hF
    obtain ⟨F, rfl⟩ : ∃ G, F = G + 1 := ⟨F - 1, by omega⟩
    rw [ff_hs_othersInRoom_4_f]
    unfold ff_hs_othersInRoom_4_b
    simp (disch := omega) only [u32_lit, sm_let_eq, sm_bind_some, sm_cI_some, sm_cV_some, sm_cL_some, sm_rd_u, sm_wr_u, u32_add, u32_mul, u32_sub, u32_le, u32_lt, u32_eq, u32_eq_neg, u32_neg_eq, u32_neg_neg, u32_le_neg, u32_neg_lt, u32_lt_neg, u32_neg_le, u10, u01, u3n0, u1n0, u4n0, n9_lt, n1_lt, n9_neg, n1_neg, if_true, if_false, if_pos, if_neg, ne_eq, not_true_eq_false, not_false_eq_true, cntF, h.1]
  | succ m ih =>
    intro k F a hm hF
    obtain ⟨F, rfl⟩ : ∃ G, F = G + 1 := ⟨F - 1, by omega⟩
    have hk : k < hN H := by omega
    have hrk := (hok.2.1 k hk).2.2.1
    rw [ff_hs_othersInRoom_4_f]
    unfold ff_hs_othersInRoom_4_b
    simp (disch := omega) only [u32_lit, h.1, u32_le, if_neg, sm_rd_u, sm_bind_some, (h.2.1 i hi).2.2.1, (h.2.1 k hk).2.2.1, u32_eq, u32_add, cntF, decide_eq_true_eq]
    by_cases e1 : k = i
    · rw [if_pos e1, if_neg (fun q => q.1 e1)]
      exact ih (k + 1) F _ (by omega) (by omega)
    · rw [if_neg e1]
      by_cases e2 : hR H k = hR H i
      · rw [if_pos e2, if_pos ⟨e1, e2⟩]
        exact ih (k + 1) F _ (by omega) (by omega)
      · rw [if_neg e2, if_neg (fun q => e2 q.2)]
        exact ih (k + 1) F _ (by omega) (by omega)
theorem mo_othersIn_loop {H : HV} {i : Nat} {w : sm_Mem} (h : MH w 0 H) (hok : HOk H) (hi : i < hN H) : ∀ (m k F : Nat) (a : Int32), k + m = hN H → m < F → ff_mo_othersIn_4_f F (u32 i) a (u32 k) w = some (.int (cntF (fun k => decide (k ≠ i ∧ hR H k = hR H i)) k m a), w) := by
  have h6 := hok.1
  have hri := (hok.2.1 i hi).2.2.1
  have ri := (h.2.1 i hi).2.2.1
  rw [Nat.zero_add] at ri
  intro m
  induction m with
  | zero =>
    intro k F a hm hF
    obtain ⟨F, rfl⟩ : ∃ G, F = G + 1 := ⟨F - 1, by omega⟩
    rw [ff_mo_othersIn_4_f]
    unfold ff_mo_othersIn_4_b
    simp (disch := omega) only [u32_lit, sm_let_eq, sm_bind_some, sm_cI_some, sm_cV_some, sm_cL_some, sm_rd_u, sm_wr_u, u32_add, u32_mul, u32_sub, u32_le, u32_lt, u32_eq, u32_eq_neg, u32_neg_eq, u32_neg_neg, u32_le_neg, u32_neg_lt, u32_lt_neg, u32_neg_le, u10, u01, u3n0, u1n0, u4n0, n9_lt, n1_lt, n9_neg, n1_neg, if_true, if_false, if_pos, if_neg, ne_eq, not_true_eq_false, not_false_eq_true, cntF, h.1]
  | succ m ih =>
    intro k F a hm hF
    obtain ⟨F, rfl⟩ : ∃ G, F = G + 1 := ⟨F - 1, by omega⟩
    have hk : k < hN H := by omega
    have hrk := (hok.2.1 k hk).2.2.1
    have rk := (h.2.1 k hk).2.2.1
    rw [Nat.zero_add] at rk
    rw [ff_mo_othersIn_4_f]
    unfold ff_mo_othersIn_4_b ff_mo_othersIn_43 ff_mo_othersIn_44
    simp (disch := omega) only [u32_lit, h.1, u32_le, if_neg, u32_add, sm_rd_u, sm_bind_some, ri, rk, u32_eq, add_u0, cntF, decide_eq_true_eq]
    by_cases e1 : k = i
    · rw [if_pos e1, if_neg (fun q => q.1 e1)]
      exact ih (k + 1) F _ (by omega) (by omega)
    · rw [if_neg e1]
      by_cases e2 : hR H k = hR H i
      · rw [if_pos e2, if_pos ⟨e1, e2⟩]
        exact ih (k + 1) F _ (by omega) (by omega)
      · rw [if_neg e2, if_neg (fun q => e2 q.2)]
        exact ih (k + 1) F _ (by omega) (by omega)
/-! how many bits -/
def popV (v : Nat) : Nat := (v.testBit 0).toNat + (v.testBit 1).toNat + (v.testBit 2).toNat + (v.testBit 3).toNat + (v.testBit 4).toNat + (v.testBit 5).toNat
noncomputable def bcE (x : Int32) : Int32 := match ff_ig_bitCount x (fun _ _ => 0, fun _ _ => 0) with
  | some (.int y, _) => y
  | _ => 0
theorem ig_bitCount {v : Nat} {w : sm_Mem} (hv : v < 64) : ff_ig_bitCount (u32 v) w = some (.int (u32 (popV v)), w) := by
  have e : ff_ig_bitCount (u32 v) w = some (.int (bcE (u32 v)), w) := rfl
  have key : ∀ v, v < 64 → bcE (u32 v) = u32 (popV v) := by decide +kernel
  rw [e, key v hv]
theorem mo_bits {v : Nat} {w : sm_Mem} (hv : v < 64) : ff_mo_bits (u32 v) w = some (.int (u32 (popV v)), w) := by
  have st : ∀ (F k a : Nat), k < 6 → ff_mo_bits_4_f (F + 1) (u32 v) (u32 a) (u32 k) w = ff_mo_bits_4_f F (u32 v) (u32 (a + (v.testBit k).toNat)) (u32 (k + 1)) w := by
    intro F k a hk
    rw [ff_mo_bits_4_f]
    unfold ff_mo_bits_4_b
    simp (disch := omega) only [u32_lit, u32_le, if_neg, u32_bit hv hk, u32_add]
  have e6 : ∀ (F a : Nat), ff_mo_bits_4_f (F + 1) (u32 v) (u32 a) (u32 6) w = some (.int (u32 a), w) := by
    intro F a
    rw [ff_mo_bits_4_f]
    unfold ff_mo_bits_4_b
    simp (disch := omega) only [u32_lit, sm_let_eq, sm_bind_some, sm_cI_some, sm_cV_some, sm_cL_some, sm_rd_u, sm_wr_u, u32_add, u32_mul, u32_sub, u32_le, u32_lt, u32_eq, u32_eq_neg, u32_neg_eq, u32_neg_neg, u32_le_neg, u32_neg_lt, u32_lt_neg, u32_neg_le, u10, u01, u3n0, u1n0, u4n0, n9_lt, n1_lt, n9_neg, n1_neg, if_true, if_false, if_pos, if_neg, ne_eq, not_true_eq_false, not_false_eq_true]
  unfold ff_mo_bits ff_mo_bits_4
  rw [sm_N_eq, u32_lit, st 999999 0 _ (by decide), st 999998 1 _ (by decide), st 999997 2 _ (by decide), st 999996 3 _ (by decide), st 999995 4 _ (by decide), st 999994 5 _ (by decide), e6 999993]
  unfold popV
  rw [Nat.zero_add]
theorem u32_and21 {v : Nat} (hv : v < 64) : u32 v &&& u32 21 = u32 (v &&& 21) ∧ v &&& 21 < 64 := by
  have key : ∀ v, v < 64 → u32 v &&& u32 21 = u32 (v &&& 21) ∧ v &&& 21 < 64 := by decide +kernel
  exact key v hv
theorem op_mark {i x : Int32} {w : sm_Mem} (h : R w) : Both (ff_ho_mark i x) (ff_mo_mark i x) R w := by
  obtain ⟨hc, B, ds, hh⟩ := id h
  obtain ⟨hok, hn, n1, n2, n6⟩ := hh.n
  obtain ⟨h1, h2, h3, h4, h5, h6, h7, h8, h9⟩ := id hh
  rcases aCases i B.1 with hi | ⟨i, hi, -, rfl⟩
  · refine BothR_same h (-u32 1) ?_ ?_
    · unfold ff_ho_mark
      simp (disch := omega) only [u32_lit, sm_cI_some, if_true, ho_isSpeaker_bad n1 n6 hi]
    · unfold ff_mo_mark
      simp (disch := omega) only [u32_lit, sm_cI_some, if_true, mo_isSpeaker_bad n2 n6 hi]
  have hbad : (aBad x 6 ∨ x = u32 0) → Both (ff_ho_mark (u32 i) x) (ff_mo_mark (u32 i) x) R w := by
    intro hx
    refine BothR_same h (-u32 1) ?_ ?_
    · unfold ff_ho_mark
      simp (disch := omega) only [u32_lit, sm_cI_some, u10, if_false, ho_isSpeaker_good n1 n6 hi]
      by_cases h0 : x = u32 0
      · rw [if_pos h0]
      · rw [if_neg h0, ho_within_bad (hx.resolve_right h0) (by decide)]
        rfl
    · have hq : ∀ w, ff_mo_in x.toInt64 1 5 w = some (.int (u32 0), w) := fun w => by
        rw [mo_in_eq, if_neg]
        have e1 : (1 : Int64).toInt = 1 := rfl
        have e2 : (5 : Int64).toInt = 5 := rfl
        rw [e1, e2]
        rcases hx with hx | hx
        · have := aBad_int hx
          omega
        · rw [hx, u32_toInt (by decide)]
          omega
      unfold ff_mo_mark
      simp (disch := omega) only [u32_lit, sm_cI_some, u10, if_false, mo_isSpeaker_good n2 n6 hi]
      rw [hq]
      rfl
  rcases aCases x 6 with hx | ⟨x, hx, -, rfl⟩
  · exact hbad (Or.inl hx)
  by_cases hx0 : x = 0
  · exact hbad (Or.inr (by rw [hx0]))
  have hq : ∀ w, ff_mo_in (u32 x).toInt64 1 5 w = some (.int (u32 1), w) := fun w => by
    rw [mo_in_eq, if_pos]
    have e1 : (1 : Int64).toInt = 1 := rfl
    have e2 : (5 : Int64).toInt = 5 := rfl
    rw [e1, e2, u32_toInt (by omega)]
    omega
  have hi' : i < hN (playV B ds).1 := by omega
  have hk := (hok.2.1 i hi').1
  have hv := (hok.2.1 i hi').2.1
  have e0 : sm_sw (u32 x) 1 = sm_sw (u32 x) ((1 : Nat) : Int) := rfl
  cases hof : isOfV (hK (playV B ds).1 i) x with
  | false =>
    refine BothR_ref h 3 ?_ ?_
    · unfold ff_ho_mark
      simp (disch := omega) only [u32_lit, sm_cI_some, sm_bind_some, sm_rd_u, u10, if_false, if_true, ho_isSpeaker_good n1 n6 hi, u32_eq, if_neg hx0, n10, ho_within_good hx, (h6.1.2.1 i hi').1, ho_isOf hk hx, hof, Bool.toNat_false, td_refuse]
    · have hm : MH (wcRef 3 w) 0 (playV B ds).1 := MH_fr hok (by rw [wcRef_ne (by decide) (by decide)]) (wcRef_ne (by decide) (by decide)) (wcRef_ne (by decide) (by decide)) (fun j _ _ => by rw [wcRef_ne (by decide) (by decide)]) h8.2.1.1
      have n2' : (wcRef 3 w).1 62 1 = u32 B.1 := by rw [wcRef_ne (by decide) (by decide)]; exact n2
      unfold ff_mo_mark
      simp (disch := omega) only [u32_lit, sm_cI_some, u10, if_false, if_true, mo_isSpeaker_good n2' n6 hi]
      rw [hq]
      simp (disch := omega) only [u32_lit, sm_cI_some, u10, if_false, if_true, mo_isOf hm hok hi' hx, hof, Bool.toNat_false, mo_find]
  | true =>
    have hz : (u32 2 = u32 0) = False := eq_false (by decide)
    have cpre : ff_ho_mark (u32 i) (u32 x) w = sm_sw (u32 x) ((1 : Nat) : Int) [((sm_cI (ff_hs_echoesOf (u32 i) w) fun x8 w9 => (some (.int x8, w9)))), (some (.int ((w.1 36 7) - (w.1 36 7) / u32 2 * u32 2), w)), ((sm_cI (ff_hs_othersWhoCan (u32 i) w) fun x11 w12 => (some (.int x11, w12)))), ((sm_cI (ff_ig_bitCount (u32 (hW (playV B ds).1 i) &&& u32 21) w) fun x14 w15 => (some (.int x14, w15))))] ((sm_cI (ff_hs_othersInRoom (u32 i) w) fun x16 w17 => (some (.int x16, w17)))) := by
      unfold ff_ho_mark
      simp (disch := omega) only [u32_lit, sm_cI_some, sm_bind_some, sm_rd_u, u10, if_false, if_true, ho_isSpeaker_good n1 n6 hi, u32_eq, if_neg hx0, n10, ho_within_good hx, (h6.1.2.1 i hi').1, (h6.1.2.1 i hi').2.1, ho_isOf hk hx, hof, Bool.toNat_true, e0, show ((2 : Nat) = 0) = False from eq_false (by decide)]
    have mpre : ff_mo_mark (u32 i) (u32 x) w = sm_sw (u32 x) ((1 : Nat) : Int) [((sm_cI (ff_mo_borrowed (u32 i) w) fun x7 w8 => (some (.int x7, w8)))), (some (.int ((w.1 63 1) - (w.1 63 1) / u32 2 * u32 2), w)), ((sm_cI (ff_mo_othersWhoCan (u32 i) w) fun x11 w12 => (some (.int x11, w12)))), ((sm_cI (ff_mo_bits (u32 (hW (playV B ds).1 i) &&& u32 21) w) fun x14 w15 => (some (.int x14, w15))))] ((sm_cI (ff_mo_othersIn (u32 i) w) fun x16 w17 => (some (.int x16, w17)))) := by
      unfold ff_mo_mark
      simp (disch := omega) only [u32_lit, sm_cI_some, u10, if_false, if_true, mo_isSpeaker_good n2 n6 hi]
      rw [hq]
      simp (disch := omega) only [u32_lit, sm_cI_some, sm_bind_some, sm_rd_u, u10, hz, if_false, if_true, mo_isOf h8.2.1.1 hok hi' hx, hof, Bool.toNat_true, e0, (h8.2.1.1.2.1 i hi').2.1]
    have s1 : ff_hs_echoesOf (u32 i) w = some (.int (cntF (fun x => !(hW (playV B ds).1 i).testBit x && ableV (hK (playV B ds).1 i) (hW (playV B ds).1 i) (hH (playV B ds).1) (lastW (hO (playV B ds).1)) x) 0 6 (u32 0)), w) := by
      unfold ff_hs_echoesOf ff_hs_echoesOf_4
      rw [sm_N_eq, u32_lit]
      exact hs_echoes_loop h6.1 hok hi' 6 0 1000000 _ (by omega) (by omega)
    have s2 : ff_mo_borrowed (u32 i) w = some (.int (cntF (fun x => !(hW (playV B ds).1 i).testBit x && ableV (hK (playV B ds).1 i) (hW (playV B ds).1 i) (hH (playV B ds).1) (lastW (hO (playV B ds).1)) x) 0 6 (u32 0)), w) := by
      unfold ff_mo_borrowed ff_mo_borrowed_4
      rw [sm_N_eq, u32_lit]
      exact mo_borrowed_loop h8.2.1.1 hok hi' 6 0 1000000 _ (by omega) (by omega)
    have s3 : ff_hs_othersWhoCan (u32 i) w = some (.int (cntF (fun k => decide (k ≠ i ∧ ¬ sayF (playV B ds).1 k = u32 0)) 0 (hN (playV B ds).1) (u32 0)), w) := by
      unfold ff_hs_othersWhoCan ff_hs_othersWhoCan_4
      rw [sm_N_eq, u32_lit]
      exact hs_othersWho_loop h6.1 hok hi' _ 0 1000000 _ (by omega) (by omega)
    have s4 : ff_mo_othersWhoCan (u32 i) w = some (.int (cntF (fun k => decide (k ≠ i ∧ ¬ sayF (playV B ds).1 k = u32 0)) 0 (hN (playV B ds).1) (u32 0)), w) := by
      unfold ff_mo_othersWhoCan ff_mo_othersWhoCan_4
      rw [sm_N_eq, u32_lit]
      exact mo_othersWho_loop h8.2.1.1 hok hi' _ 0 1000000 _ (by omega) (by omega)
    have s5 : ff_hs_othersInRoom (u32 i) w = some (.int (cntF (fun k => decide (k ≠ i ∧ hR (playV B ds).1 k = hR (playV B ds).1 i)) 0 (hN (playV B ds).1) (u32 0)), w) := by
      unfold ff_hs_othersInRoom ff_hs_othersInRoom_4
      rw [sm_N_eq, u32_lit]
      exact hs_othersIn_loop h6.1 hok hi' _ 0 1000000 _ (by omega) (by omega)
    have s6 : ff_mo_othersIn (u32 i) w = some (.int (cntF (fun k => decide (k ≠ i ∧ hR (playV B ds).1 k = hR (playV B ds).1 i)) 0 (hN (playV B ds).1) (u32 0)), w) := by
      unfold ff_mo_othersIn ff_mo_othersIn_4
      rw [sm_N_eq, u32_lit]
      exact mo_othersIn_loop h8.2.1.1 hok hi' _ 0 1000000 _ (by omega) (by omega)
    obtain ⟨a1, a2⟩ := u32_and21 hv
    have m7 := h8.2.1.1.2.2.1
    rw [Nat.zero_add] at m7
    rw [s1, s3, s5, a1, ig_bitCount a2, h6.1.2.2.1] at cpre
    rw [s2, s4, s6, a1, mo_bits a2, m7] at mpre
    simp only [sm_cI_some] at cpre mpre
    rw [sm_sw_u (by omega)] at cpre mpre
    rcases (show x = 1 ∨ x = 2 ∨ x = 3 ∨ x = 4 ∨ x = 5 by omega) with rfl | rfl | rfl | rfl | rfl
    · exact Both_mk _ w w cpre mpre h
    · exact Both_mk _ w w cpre mpre h
    · exact Both_mk _ w w cpre mpre h
    · exact Both_mk _ w w cpre mpre h
    · exact Both_mk _ w w cpre mpre h
