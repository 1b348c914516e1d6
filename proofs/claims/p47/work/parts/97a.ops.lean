/-! pure: what the class answers: next words, rows -/
theorem RHs_search {w w1 : sm_Mem} {B : HBase} {ds : List Deed} (H : RHs w B ds) (hC : CH w1 (playV B ds).1) (hx : XFr w w1) : RHs w1 B ds := by
  obtain ⟨h1, h2, h3, h4, h5, h6⟩ := H
  refine ⟨h1, fun i hi => ?_, h3, h4, ⟨hC, ?_⟩, ⟨?_, CDl_fr ds (fun j hj => ?_) h6.2⟩⟩
  · rw [hx.1 39 (by omega), hx.1 40 (by omega)]; exact h2 i hi
  · rw [hx.2.1 8 (by decide)]; exact h5.2
  · rw [hx.1 45 (by omega)]; exact h6.1
  · rw [hx.1 (45 + 1) (by omega), hx.1 (45 + 2) (by omega), hx.1 (45 + 3) (by omega)]; exact ⟨rfl, rfl, rfl⟩
/-- rows, texts, kept houses and the law's own rows as they were -/
def AFr (w w1 : sm_Mem) : Prop := ∀ a, (a < 36 ∨ 61 < a) → w1.1 a = w.1 a
theorem AFr.refl {w : sm_Mem} : AFr w w := fun _ _ => rfl
theorem AFr.trans {w w1 w2 : sm_Mem} (h1 : AFr w w1) (h2 : AFr w1 w2) : AFr w w2 := fun a ha => (h2 a ha).trans (h1 a ha)
theorem AFr.x {w w1 : sm_Mem} (h : XFr w w1) : AFr w w1 := fun a ha => h.1 a (by omega)
theorem AFr.d {w w1 : sm_Mem} (h : DFr w w1) : AFr w w1 := fun a ha => h.1 a (by omega)
theorem AFr.told {w : sm_Mem} {j : Nat} {x : Int32} : AFr w (sm_wI w 60 j x) := fun a ha => sm_wI_ne (by omega)
theorem RHs.told {w : sm_Mem} {B : HBase} {ds : List Deed} {k j : Nat} {x : Int32} (hk : k < 36 ∨ 48 < k) (h : RHs w B ds) : RHs (sm_wI w k j x) B ds := h.fr (fun a h1 h2 => sm_wI_ne (by omega))
theorem RHs.a {w w1 : sm_Mem} {B : HBase} {ds : List Deed} (h : RHs w B ds) (he : ∀ a, 36 ≤ a → a < 49 → w1.1 a = w.1 a) : RHs w1 B ds := h.fr he
theorem ch_who {B : HBase} {ds : List Deed} {x : Nat} {w : sm_Mem} (h : RHs w B ds) (hx : x < 6) : ff_ho_who (u32 x) w = some (.int (orF (fun i => canV (playV B ds).1 i x) 0 (hN (playV B ds).1) (u32 0)), w) := by
  obtain ⟨hok, hn, n1, n6⟩ := h.n
  unfold ff_ho_who
  simp (disch := omega) only [u32_lit, sm_let_eq, sm_bind_some, sm_cI_some, sm_cV_some, sm_cL_some, sm_rd_u, sm_wr_u, u32_add, u32_mul, u32_sub, u32_le, u32_lt, u32_eq, u32_eq_neg, u32_neg_eq, u32_neg_neg, u32_le_neg, u32_neg_lt, u32_lt_neg, u32_neg_le, u10, u01, u3n0, u1n0, u4n0, n9_lt, n1_lt, n9_neg, n1_neg, if_true, if_false, if_pos, if_neg, ne_eq, not_true_eq_false, not_false_eq_true, ho_within_good hx]
  unfold ff_ho_who_15
  rw [sm_N_eq]
  exact ho_who_loop h.2.2.2.2.1.1 hok hx _ 0 1000000 _ (by omega) (by omega)
theorem ch_what {B : HBase} {ds : List Deed} {i : Nat} {w : sm_Mem} (h : RHs w B ds) (hi : i < B.1) : ff_ho_what (u32 i) w = some (.int (sayF (playV B ds).1 i), w) := by
  obtain ⟨hok, hn, n1, n6⟩ := h.n
  have hi' : i < hN (playV B ds).1 := by omega
  unfold ff_ho_what
  simp (disch := omega) only [u32_lit, sm_let_eq, sm_bind_some, sm_cI_some, sm_cV_some, sm_cL_some, sm_rd_u, sm_wr_u, u32_add, u32_mul, u32_sub, u32_le, u32_lt, u32_eq, u32_eq_neg, u32_neg_eq, u32_neg_neg, u32_le_neg, u32_neg_lt, u32_lt_neg, u32_neg_le, u10, u01, u3n0, u1n0, u4n0, n9_lt, n1_lt, n9_neg, n1_neg, if_true, if_false, if_pos, if_neg, ne_eq, not_true_eq_false, not_false_eq_true, ho_isSpeaker_good n1 n6 hi, hs_sayable h.2.2.2.2.1.1 hok hi']
theorem ch_said {B : HBase} {ds : List Deed} {k : Nat} {w : sm_Mem} (h : RHs w B ds) (hk : k < (hO (playV B ds).1).length) : ff_ho_said (u32 k) w = some (.int (u32 (ordAt (hO (playV B ds).1) k).1), sm_wI w 60 0 (u32 (ordAt (hO (playV B ds).1) k).2)) := by
  obtain ⟨hok, hn, n1, n6⟩ := h.n
  have c1 := h.2.2.2.2.1.1.2.2.2.1
  have l8 := hok.2.2.2.1
  have e1 := ordC_at _ k hk h.2.2.2.2.1.1.2.2.2.2
  unfold ff_ho_said
  simp (disch := omega) only [u32_lit, c1, ho_within_good hk, sm_cI_some, u10, if_false, sm_rd_u, sm_bind_some, e1.2, sm_let_eq, sm_wI_ne, sm_wI_nj, sm_wI_eq, sm_wA_ne, sm_wA_eq, e1.1]
theorem ch_speaker {B : HBase} {ds : List Deed} {i x : Nat} {w : sm_Mem} (h : RHs w B ds) (hi : i < B.1) (hx : x < 6) : ff_ho_speaker (u32 i) (u32 x) w = some (.int (u32 1), sm_wI w 60 0 (factV B (playV B ds).1 i x)) := by
  obtain ⟨hok, hn, n1, n6⟩ := h.n
  have hi' : i < hN (playV B ds).1 := by omega
  unfold ff_ho_speaker
  simp (disch := omega) only [u32_lit, sm_let_eq, sm_bind_some, sm_cI_some, sm_cV_some, sm_cL_some, sm_rd_u, sm_wr_u, u32_add, u32_mul, u32_sub, u32_le, u32_lt, u32_eq, u32_eq_neg, u32_neg_eq, u32_neg_neg, u32_le_neg, u32_neg_lt, u32_lt_neg, u32_neg_le, u10, u01, u3n0, u1n0, u4n0, n9_lt, n1_lt, n9_neg, n1_neg, if_true, if_false, if_pos, if_neg, ne_eq, not_true_eq_false, not_false_eq_true, ho_isSpeaker_good n1 n6 hi, ho_within_good hx, hs_factOf h.2.2.2.2.1.1 hok h.2.1 hn hi' hx]
theorem ch_row {r n : Nat} {w : sm_Mem} (hr : r < 6) (hn : n ≤ 40) : ff_ho_row (u32 r) (u32 n) w = some (.int (u32 n), sm_wA (sm_wI w (2 + 2 * r) 1 (u32 n)) (2 + 2 * r + 1) (fillF (w.1 (2 + 2 * r + 1)) 0 n (u32 0))) := by
  have hR := isRow_row hr
  unfold ff_ho_row ff_ho_make
  simp (disch := omega) only [u32_lit, sm_let_eq, sm_bind_some, sm_cI_some, sm_cV_some, sm_cL_some, sm_rd_u, sm_wr_u, u32_add, u32_mul, u32_sub, u32_le, u32_lt, u32_eq, u32_eq_neg, u32_neg_eq, u32_neg_neg, u32_le_neg, u32_neg_lt, u32_lt_neg, u32_neg_le, u10, u01, u3n0, u1n0, u4n0, n9_lt, n1_lt, n9_neg, n1_neg, if_true, if_false, if_pos, if_neg, ne_eq, not_true_eq_false, not_false_eq_true, al_rows, ho_within_good hr, rr_row hr, hR.fk, hR.al, hR.rc, rw_begin hR (show n ≤ 40 by omega)]
theorem ch_text {r n : Nat} {w : sm_Mem} (hr : r < 4) (hn : n ≤ 60) : ff_ho_text (u32 r) (u32 n) w = some (.int (u32 n), sm_wA (sm_wI w (15 + 2 * r) 1 (u32 n)) (15 + 2 * r + 1) (fillF (w.1 (15 + 2 * r + 1)) 0 n (u32 32))) := by
  have hR := isRow_text hr
  unfold ff_ho_text ff_ho_make
  simp (disch := omega) only [u32_lit, sm_let_eq, sm_bind_some, sm_cI_some, sm_cV_some, sm_cL_some, sm_rd_u, sm_wr_u, u32_add, u32_mul, u32_sub, u32_le, u32_lt, u32_eq, u32_eq_neg, u32_neg_eq, u32_neg_neg, u32_le_neg, u32_neg_lt, u32_lt_neg, u32_neg_le, u10, u01, u3n0, u1n0, u4n0, n9_lt, n1_lt, n9_neg, n1_neg, if_true, if_false, if_pos, if_neg, ne_eq, not_true_eq_false, not_false_eq_true, al_texts, ho_within_good hr, rr_text hr, hR.fk, hR.al, hR.rc, rw_begin hR (show n ≤ 60 by omega)]
theorem ch_at {r n i : Nat} {w : sm_Mem} (hr : r < 6) (hn : n ≤ 40) (hc : w.1 (2 + 2 * r) 1 = u32 n) (hi : i < n) : ff_ho_at (u32 r) (u32 i) w = some (.int (u32 1), sm_wI w 60 0 (w.1 (2 + 2 * r + 1) i)) := by
  have hR := isRow_row hr
  unfold ff_ho_at
  simp (disch := omega) only [u32_lit, sm_let_eq, sm_bind_some, sm_cI_some, sm_cV_some, sm_cL_some, sm_rd_u, sm_wr_u, u32_add, u32_mul, u32_sub, u32_le, u32_lt, u32_eq, u32_eq_neg, u32_neg_eq, u32_neg_neg, u32_le_neg, u32_neg_lt, u32_lt_neg, u32_neg_le, u10, u01, u3n0, u1n0, u4n0, n9_lt, n1_lt, n9_neg, n1_neg, if_true, if_false, if_pos, if_neg, ne_eq, not_true_eq_false, not_false_eq_true, place_row_ok hr (show n < 2147483648 by omega) hc hi, rr_row hr, hR.fk, hR.rds (show i < 40 by omega)]
theorem ch_at_no {r n i : Nat} {w : sm_Mem} (hr : r < 6) (hn : n ≤ 40) (hc : w.1 (2 + 2 * r) 1 = u32 n) (hi : n ≤ i) (hi2 : i < 2147483648) : ff_ho_at (u32 r) (u32 i) w = some (.int (-u32 3), wcRef 2 w) := by
  unfold ff_ho_at
  simp (disch := omega) only [u32_lit, sm_let_eq, sm_bind_some, sm_cI_some, sm_cV_some, sm_cL_some, sm_rd_u, sm_wr_u, u32_add, u32_mul, u32_sub, u32_le, u32_lt, u32_eq, u32_eq_neg, u32_neg_eq, u32_neg_neg, u32_le_neg, u32_neg_lt, u32_lt_neg, u32_neg_le, u10, u01, u3n0, u1n0, u4n0, n9_lt, n1_lt, n9_neg, n1_neg, if_true, if_false, if_pos, if_neg, ne_eq, not_true_eq_false, not_false_eq_true, place_row_beyond hr (show n < 2147483648 by omega) hc (Or.inr ⟨i, hi, hi2, rfl⟩)]
theorem ch_lay {r n i : Nat} {v : Int32} {w : sm_Mem} (hr : r < 6) (hn : n ≤ 40) (hc : w.1 (2 + 2 * r) 1 = u32 n) (hi : i < n) : ff_ho_lay (u32 r) (u32 i) v w = some (.int (u32 1), sm_wI (sm_wI w 60 0 (w.1 (2 + 2 * r + 1) i)) (2 + 2 * r + 1) i v) := by
  have hR := isRow_row hr
  unfold ff_ho_lay
  simp (disch := omega) only [u32_lit, sm_let_eq, sm_bind_some, sm_cI_some, sm_cV_some, sm_cL_some, sm_rd_u, sm_wr_u, u32_add, u32_mul, u32_sub, u32_le, u32_lt, u32_eq, u32_eq_neg, u32_neg_eq, u32_neg_neg, u32_le_neg, u32_neg_lt, u32_lt_neg, u32_neg_le, u10, u01, u3n0, u1n0, u4n0, n9_lt, n1_lt, n9_neg, n1_neg, if_true, if_false, if_pos, if_neg, ne_eq, not_true_eq_false, not_false_eq_true, place_row_ok hr (show n < 2147483648 by omega) hc hi, rr_row hr, hR.fk, hR.rds (show i < 40 by omega), hR.wrs (show i < 40 by omega)]
theorem ch_tear {r : Nat} {w : sm_Mem} (hr : r < 6) (h : SzOk w (2 + 2 * r) 40) : (w.1 (2 + 2 * r) 1 = -u32 9 ∧ ff_ho_tear (u32 r) w = some (.int (-u32 3), wcRef 1 w)) ∨ ff_ho_tear (u32 r) w = some (.int (u32 1), sm_wI w (2 + 2 * r) 1 (-u32 9)) := by
  have hR := isRow_row hr
  rcases h with h | ⟨n, hn, h⟩
  · refine Or.inl ⟨h, ?_⟩
    unfold ff_ho_tear
    simp (disch := omega) only [u32_lit, sm_let_eq, sm_bind_some, sm_cI_some, sm_cV_some, sm_cL_some, sm_rd_u, sm_wr_u, u32_add, u32_mul, u32_sub, u32_le, u32_lt, u32_eq, u32_eq_neg, u32_neg_eq, u32_neg_neg, u32_le_neg, u32_neg_lt, u32_lt_neg, u32_neg_le, u10, u01, u3n0, u1n0, u4n0, n9_lt, n1_lt, n9_neg, n1_neg, if_true, if_false, if_pos, if_neg, ne_eq, not_true_eq_false, not_false_eq_true, miss_row_none hr h]
  · refine Or.inr ?_
    unfold ff_ho_tear
    simp (disch := omega) only [u32_lit, sm_let_eq, sm_bind_some, sm_cI_some, sm_cV_some, sm_cL_some, sm_rd_u, sm_wr_u, u32_add, u32_mul, u32_sub, u32_le, u32_lt, u32_eq, u32_eq_neg, u32_neg_eq, u32_neg_neg, u32_le_neg, u32_neg_lt, u32_lt_neg, u32_neg_le, u10, u01, u3n0, u1n0, u4n0, n9_lt, n1_lt, n9_neg, n1_neg, if_true, if_false, if_pos, if_neg, ne_eq, not_true_eq_false, not_false_eq_true, miss_row_some hr (show n < 2147483648 by omega) h, rr_row hr, hR.pI]
theorem ch_put {r n i : Nat} {v : Int32} {w : sm_Mem} (hr : r < 4) (hn : n ≤ 60) (hc : w.1 (15 + 2 * r) 1 = u32 n) (hi : i < n) : ff_ho_put (u32 r) (u32 i) v w = some (.int (w.1 (15 + 2 * r + 1) i + u32 1000), sm_wI w (15 + 2 * r + 1) i v.toInt8.toInt32) := by
  have hR := isRow_text hr
  unfold ff_ho_put
  simp (disch := omega) only [u32_lit, sm_let_eq, sm_bind_some, sm_cI_some, sm_cV_some, sm_cL_some, sm_rd_u, sm_wr_u, u32_add, u32_mul, u32_sub, u32_le, u32_lt, u32_eq, u32_eq_neg, u32_neg_eq, u32_neg_neg, u32_le_neg, u32_neg_lt, u32_lt_neg, u32_neg_le, u10, u01, u3n0, u1n0, u4n0, n9_lt, n1_lt, n9_neg, n1_neg, if_true, if_false, if_pos, if_neg, ne_eq, not_true_eq_false, not_false_eq_true, place_text_ok hr (show n < 2147483648 by omega) hc hi, rr_text hr, hR.fk, hR.rds (show i < 60 by omega), hR.wrs (show i < 60 by omega)]
/-! kinds, test -/
theorem ch_triples {B : HBase} {ds : List Deed} {i r : Nat} {t : Tr} {w : sm_Mem} (hh : RHs w B ds) (hi : i < B.1) (hr : r < 6) (hc : w.1 (2 + 2 * r) 1 = u32 3) (h0 : w.1 (2 + 2 * r + 1) 0 = oAns t.1) (hl : ∀ l, t.1 = some l → l < 6) (h1 : w.1 (2 + 2 * r + 1) 1 = u32 t.2.1) (hx : t.2.1 < 6) (h2 : w.1 (2 + 2 * r + 1) 2 = u32 t.2.2.toNat) : ff_ho_refusalOfTriples (u32 i) (u32 r) w = some (.int (u32 0), w) ∧ TrAt (w.1 (2 + 2 * r + 1)) [t] := by
  obtain ⟨hok, hn, n1, n6⟩ := hh.n
  have hR := isRow_row hr
  have e3 : u32 3 - u32 3 / u32 3 * u32 3 = u32 0 := by decide
  have hz : (u32 3 = u32 0) = False := eq_false (by decide)
  have hw : wordOf (u32 t.2.1) = some t.2.1 := by
    unfold wordOf
    rw [u32_toInt (by omega), if_pos (by omega)]
    rfl
  have hb : bitOf (u32 t.2.2.toNat) = some t.2.2 := by cases t.2.2 <;> rfl
  have hlo : lastOf (oAns t.1) = some t.1 := by
    unfold lastOf
    cases ho : t.1 with
    | none => rfl
    | some l =>
      have hl6 := hl l ho
      show (if u32 l = -u32 9 then _ else _) = _
      have hwl : wordOf (u32 l) = some l := by
        unfold wordOf
        rw [u32_toInt (by omega), if_pos (by omega)]
        rfl
      rw [if_neg (by rw [u32_eq_neg (by omega) (by decide) (by decide)]; exact id), show oAns (some l) = u32 l from rfl, hwl]
      rfl
  have ht : trips (w.1 (2 + 2 * r + 1)) 0 1 = some [t] := by
    have e : tripAt (w.1 (2 + 2 * r + 1)) 0 = some t := by
      unfold tripAt
      rw [h0, show 0 + 1 = 1 from rfl, show 0 + 2 = 2 from rfl, h1, h2, hw, hb, hlo]
    unfold trips
    rw [e]
    rfl
  have hc3 : ff_rw_isOfTriples (2 + 2 * r) w = some (.int (u32 (trips (w.1 (2 + 2 * r + 1)) 0 1).isSome.toNat), w) := by
    unfold ff_rw_isOfTriples ff_rw_isOfTriples_2
    rw [sm_N_eq, u32_lit]
    exact rw_triples_loop hR (by decide) hc 1 0 1000000 (by omega) (by omega)
  refine ⟨?_, fun k t' hk => ?_⟩
  · unfold ff_ho_refusalOfTriples
    simp (disch := omega) only [u32_lit, sm_cI_some, sm_bind_some, u10, hz, if_false, if_true, ho_isSpeaker_good n1 n6 hi, ho_within_good hr, rr_row hr, hR.rc, rw_isMissing_some hR (show 3 < 2147483648 by omega) hc, hR.gI, hc, e3, hc3, ht, Option.isSome_some, Bool.toNat_true]
  · cases k with
    | zero =>
      cases hk
      exact ⟨h0, hl, h1, hx, h2⟩
    | succ k => cases hk
theorem ch_kindsBy {B : HBase} {ds : List Deed} {i r : Nat} {t : Tr} {w : sm_Mem} (hh : RHs w B ds) (hi : i < B.1) (hr : r < 6) (hc : w.1 (2 + 2 * r) 1 = u32 3) (hT : TrAt (w.1 (2 + 2 * r + 1)) [t]) : ff_ho_kindsBy (u32 i) (2 + 2 * r) w = some (.int (u32 (setV (kindV (playV B ds).1 i [t]))), w) := by
  obtain ⟨hok, hn, n1, n6⟩ := hh.n
  have hi' : i < hN (playV B ds).1 := by omega
  unfold ff_ho_kindsBy ff_ho_kindsBy_5
  rw [sm_N_eq, u32_lit, ho_kindsBy_loop (L := [t]) hh.2.2.2.2.1.1 hok hi' (isRow_row hr) (show 3 * 1 ≤ 40 by decide) hc hT 6 0 1000000 _ (by omega) (by omega), (setV_spec _).1]
theorem ch_kinds {B : HBase} {ds : List Deed} {i r : Nat} {t : Tr} {w : sm_Mem} (hh : RHs w B ds) (hi : i < B.1) (hr : r < 6) (hc : w.1 (2 + 2 * r) 1 = u32 3) (h0 : w.1 (2 + 2 * r + 1) 0 = oAns t.1) (hl : ∀ l, t.1 = some l → l < 6) (h1 : w.1 (2 + 2 * r + 1) 1 = u32 t.2.1) (hx : t.2.1 < 6) (h2 : w.1 (2 + 2 * r + 1) 2 = u32 t.2.2.toNat) : ff_ho_kinds (u32 i) (u32 r) w = some (.int (u32 (setV (kindV (playV B ds).1 i [t]))), w) := by
  obtain ⟨a1, a2⟩ := ch_triples hh hi hr hc h0 hl h1 hx h2
  unfold ff_ho_kinds
  simp (disch := omega) only [u32_lit, a1, sm_cI_some, if_true, rr_row hr, sm_bind_some, ch_kindsBy hh hi hr hc a2]
theorem ch_test {B : HBase} {ds : List Deed} {i r : Nat} {t : Tr} {w : sm_Mem} (hh : RHs w B ds) (hi : i < B.1) (hr : r < 6) (hc : w.1 (2 + 2 * r) 1 = u32 3) (h0 : w.1 (2 + 2 * r + 1) 0 = oAns t.1) (hl : ∀ l, t.1 = some l → l < 6) (h1 : w.1 (2 + 2 * r + 1) 1 = u32 t.2.1) (hx : t.2.1 < 6) (h2 : w.1 (2 + 2 * r + 1) 2 = u32 t.2.2.toNat) (hne : ¬ setV (kindV (playV B ds).1 i [t]) = 0) : ff_ho_test (u32 i) (u32 r) w = some (.int (tF (partN (playV B ds).1 i (kindV (playV B ds).1 i [t])) 0 42 (u32 0, 7)).1, sm_wI w 60 0 (u32 (tF (partN (playV B ds).1 i (kindV (playV B ds).1 i [t])) 0 42 (u32 0, 7)).2)) := by
  obtain ⟨hok, hn, n1, n6⟩ := hh.n
  have hi' : i < hN (playV B ds).1 := by omega
  obtain ⟨a1, a2⟩ := ch_triples hh hi hr hc h0 hl h1 hx h2
  obtain ⟨-, s2, -⟩ := setV_spec (kindV (playV B ds).1 i [t])
  unfold ff_ho_test
  simp (disch := omega) only [u32_lit, a1, sm_cI_some, if_true, rr_row hr, sm_bind_some, ch_kindsBy hh hi hr hc a2, u32_eq, if_neg hne]
  unfold ff_ho_test_44
  rw [sm_N_eq, ho_test_out hh.2.2.2.2.1.1 hok hi' 7 0 1000000 (u32 0) 7 (by omega) (by omega) (by omega)]
