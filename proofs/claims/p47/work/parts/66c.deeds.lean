/-! pure: the class's house by its deeds; say, end, hour, walk, undo, keep, on -/
def RHs (w : sm_Mem) (B : HBase) (ds : List Deed) : Prop := BOk B ∧ CB w B ∧ ds.length ≤ 40 ∧ validV B ds ∧ CHX w (playV B ds) ∧ CD w 45 ds
def DFr (w w1 : sm_Mem) : Prop := (∀ a, (a < 36 ∨ 48 < a) → w1.1 a = w.1 a) ∧ w1.2 = w.2
theorem DFr.refl {w : sm_Mem} : DFr w w := ⟨fun _ _ => rfl, rfl⟩
theorem DFr.trans {w w1 w2 : sm_Mem} (h1 : DFr w w1) (h2 : DFr w1 w2) : DFr w w2 := ⟨fun a ha => (h2.1 a ha).trans (h1.1 a ha), h2.2.trans h1.2⟩
theorem RHs.n {w : sm_Mem} {B : HBase} {ds : List Deed} (h : RHs w B ds) : HOk (playV B ds).1 ∧ hN (playV B ds).1 = B.1 ∧ w.1 36 0 = u32 B.1 ∧ B.1 ≤ 6 := by
  obtain ⟨h1, h2, h3, h4, h5, h6⟩ := h
  obtain ⟨a1, a2⟩ := playV_ok h1 ds h3 h4
  exact ⟨a1, a2, by rw [← a2]; exact h5.1.1, h1.1⟩
theorem RHs.fr {w w1 : sm_Mem} {B : HBase} {ds : List Deed} (h : ∀ a, 36 ≤ a → a < 49 → w1.1 a = w.1 a) (H : RHs w B ds) : RHs w1 B ds := by
  obtain ⟨h1, h2, h3, h4, h5, h6⟩ := H
  refine ⟨h1, fun i hi => ?_, h3, h4, ⟨CH_fr (fun a a1 a2 => h a a1 (by omega)) h5.1, ?_⟩, ⟨?_, CDl_fr ds (fun j hj => ?_) h6.2⟩⟩
  · rw [h 39 (by decide) (by decide), h 40 (by decide) (by decide)]; exact h2 i hi
  · rw [h 36 (by decide) (by decide)]; exact h5.2
  · rw [h 45 (by decide) (by decide)]; exact h6.1
  · rw [h (45 + 1) (by decide) (by decide), h (45 + 2) (by decide) (by decide), h (45 + 3) (by decide) (by decide)]; exact ⟨rfl, rfl, rfl⟩
theorem play_base {B : HBase} : ∀ (ds : List Deed), hK (playV B ds).1 = B.2.1 ∧ hW (playV B ds).1 = B.2.2.1
  | [] => ⟨rfl, rfl⟩
  | d :: r => by
    have ih := play_base (B := B) r
    have e : hK (playV B (d :: r)).1 = hK (playV B r).1 ∧ hW (playV B (d :: r)).1 = hW (playV B r).1 := by
      show hK (perfV B (playV B r) d).1 = _ ∧ hW (perfV B (playV B r) d).1 = _
      unfold perfV
      split <;> exact ⟨rfl, rfl⟩
    rw [e.1, e.2]
    exact ih
theorem RHs.base {w : sm_Mem} {B : HBase} {ds : List Deed} (h : RHs w B ds) : ∀ i, i < B.1 → w.1 37 i = u32 (B.2.1 i) ∧ w.1 38 i = u32 (B.2.2.1 i) := by
  have hn := h.n.2.1
  obtain ⟨h1, h2, h3, h4, h5, h6⟩ := h
  obtain ⟨k1, k2⟩ := play_base (B := B) ds
  intro i hi
  have := h5.1.2.1 i (by omega)
  rw [← k1, ← k2]
  exact ⟨this.1, this.2.1⟩
theorem hs_enact {B : HBase} {ds : List Deed} {d : Deed} {w : sm_Mem} (h : RHs w B ds) (hl : ds.length < 40) (hd : okD (playV B ds) d) : ∃ w1, ff_hs_enact (u32 d.1) (u32 d.2.1) (u32 d.2.2) w = some (.null, w1) ∧ RHs w1 B (d :: ds) ∧ DFr w w1 := by
  obtain ⟨hok, hn, -⟩ := h.n
  obtain ⟨h1, h2, h4, h5, h6, h7⟩ := h
  have hsm := playV_small (B := B) ds
  obtain ⟨w1, a1, a2, a3, a4⟩ := de_add (d := d) hl h7
  obtain ⟨w2, b1, b2, b3⟩ := hs_perform (w := w1) ⟨CH_fr (fun a c1 c2 => a3 a (by omega)) h6.1, by rw [a3 36 (by omega)]; exact h6.2⟩ hok hn (fun i hi => by rw [a3 39 (by omega), a3 40 (by omega)]; exact h2 i hi) hd (by omega) (by omega)
  refine ⟨w2, ?_, ⟨h1, fun i hi => ?_, by rw [List.length_cons]; omega, ⟨hd, h5⟩, b2, ⟨by rw [b3.1 45 (by omega)]; exact a2.1, CDl_fr _ (fun j _ => ?_) a2.2⟩⟩, fun a ha => by rw [b3.1 a (by omega), a3 a (by omega)], b3.2.1.trans a4⟩
  · unfold ff_hs_enact
    rw [a1, sm_cV_some, b1]
    rfl
  · rw [b3.1 39 (by omega), b3.1 40 (by omega), a3 39 (by omega), a3 40 (by omega)]
    exact h2 i hi
  · rw [b3.1 (45 + 1) (by omega), b3.1 (45 + 2) (by omega), b3.1 (45 + 3) (by omega)]
    exact ⟨rfl, rfl, rfl⟩
theorem hs_isFull0 {B : HBase} {ds : List Deed} {w : sm_Mem} (h : RHs w B ds) (hl : ds.length < 40) : ff_hs_isFull w = some (.int (u32 0), w) := by
  unfold ff_hs_isFull
  rw [h.2.2.2.2.2.1]
  simp (disch := omega) only [u32_lit, u32_lt, if_pos, hl, if_true]
theorem ch_say {B : HBase} {ds : List Deed} {i x : Nat} {w : sm_Mem} (h : RHs w B ds) (hl : ds.length < 40) (hi : i < B.1) (hx : x < 6) (hcan : canV (playV B ds).1 i x = true) : ∃ w1, ff_ho_say (u32 i) (u32 x) w = some (.int (u32 ((hO (playV B ds).1).length + 1)), w1) ∧ RHs w1 B ((0, i, x) :: ds) ∧ DFr w w1 := by
  obtain ⟨hok, hn, n1, n6⟩ := h.n
  have hi' : i < hN (playV B ds).1 := by omega
  have hd : okD (playV B ds) (0, i, x) := Or.inl ⟨rfl, hi', hx, hcan⟩
  obtain ⟨w1, a1, a2, a3⟩ := hs_enact h hl hd
  refine ⟨w1, ?_, a2, a3⟩
  have e := a2.2.2.2.2.1.1.2.2.2.1
  unfold ff_ho_say
  simp (disch := omega) only [u32_lit, sm_let_eq, sm_bind_some, sm_cI_some, sm_cV_some, sm_cL_some, sm_rd_u, sm_wr_u, u32_add, u32_mul, u32_sub, u32_le, u32_lt, u32_eq, u32_eq_neg, u32_neg_eq, u32_neg_neg, u32_le_neg, u32_neg_lt, u32_lt_neg, u32_neg_le, u10, u01, u3n0, u1n0, u4n0, n9_lt, n1_lt, n9_neg, n1_neg, if_true, if_false, if_pos, if_neg, ne_eq, not_true_eq_false, not_false_eq_true, ho_isSpeaker_good n1 n6 hi, ho_within_good hx, ho_can h.2.2.2.2.1.1 hok hi' hx, hcan, Bool.toNat_true, hs_isFull0 h hl]
  rw [a1]
  simp only [sm_cV_some]
  rw [e]
  rfl
theorem ch_say_no {B : HBase} {ds : List Deed} {i x : Nat} {w : sm_Mem} (h : RHs w B ds) (hi : i < B.1) (hx : x < 6) (hcan : canV (playV B ds).1 i x = false) : ff_ho_say (u32 i) (u32 x) w = some (.int (-u32 4), w) := by
  obtain ⟨hok, hn, n1, n6⟩ := h.n
  have hi' : i < hN (playV B ds).1 := by omega
  unfold ff_ho_say
  simp (disch := omega) only [u32_lit, sm_let_eq, sm_bind_some, sm_cI_some, sm_cV_some, sm_cL_some, sm_rd_u, sm_wr_u, u32_add, u32_mul, u32_sub, u32_le, u32_lt, u32_eq, u32_eq_neg, u32_neg_eq, u32_neg_neg, u32_le_neg, u32_neg_lt, u32_lt_neg, u32_neg_le, u10, u01, u3n0, u1n0, u4n0, n9_lt, n1_lt, n9_neg, n1_neg, if_true, if_false, if_pos, if_neg, ne_eq, not_true_eq_false, not_false_eq_true, ho_isSpeaker_good n1 n6 hi, ho_within_good hx, ho_can h.2.2.2.2.1.1 hok hi' hx, hcan, Bool.toNat_false]
theorem ch_end {B : HBase} {ds : List Deed} {w : sm_Mem} (h : RHs w B ds) (hl : ds.length < 40) (h0 : ¬ (hO (playV B ds).1).length = 0) : ∃ w1, ff_ho_end w = some (.int (u32 (hO (playV B ds).1).length), w1) ∧ RHs w1 B ((1, 0, 0) :: ds) ∧ DFr w w1 := by
  obtain ⟨hok, hn, n1, n6⟩ := h.n
  have c1 := h.2.2.2.2.1.1.2.2.2.1
  have l8 := hok.2.2.2.1
  have hd : okD (playV B ds) (1, 0, 0) := Or.inr (Or.inl ⟨rfl, rfl, rfl⟩)
  obtain ⟨w1, a1, a2, a3⟩ := hs_enact h hl hd
  refine ⟨w1, ?_, a2, a3⟩
  unfold ff_ho_end
  simp (disch := omega) only [u32_lit, sm_let_eq, sm_bind_some, sm_cI_some, sm_cV_some, sm_cL_some, sm_rd_u, sm_wr_u, u32_add, u32_mul, u32_sub, u32_le, u32_lt, u32_eq, u32_eq_neg, u32_neg_eq, u32_neg_neg, u32_le_neg, u32_neg_lt, u32_lt_neg, u32_neg_le, u10, u01, u3n0, u1n0, u4n0, n9_lt, n1_lt, n9_neg, n1_neg, if_true, if_false, if_pos, if_neg, ne_eq, not_true_eq_false, not_false_eq_true, c1, hs_isFull0 h hl]
  rw [a1]
  rfl
theorem ch_end_no {B : HBase} {ds : List Deed} {w : sm_Mem} (h : RHs w B ds) (h0 : (hO (playV B ds).1).length = 0) : ff_ho_end w = some (.int (-u32 4), w) := by
  have c1 := h.2.2.2.2.1.1.2.2.2.1
  unfold ff_ho_end
  simp (disch := omega) only [u32_lit, sm_let_eq, sm_bind_some, sm_cI_some, sm_cV_some, sm_cL_some, sm_rd_u, sm_wr_u, u32_add, u32_mul, u32_sub, u32_le, u32_lt, u32_eq, u32_eq_neg, u32_neg_eq, u32_neg_neg, u32_le_neg, u32_neg_lt, u32_lt_neg, u32_neg_le, u10, u01, u3n0, u1n0, u4n0, n9_lt, n1_lt, n9_neg, n1_neg, if_true, if_false, if_pos, if_neg, ne_eq, not_true_eq_false, not_false_eq_true, c1, h0]
theorem ch_hour {B : HBase} {ds : List Deed} {w : sm_Mem} (h : RHs w B ds) (hl : ds.length < 40) (h0 : ¬ B.1 = 0) : ∃ w1, ff_ho_hour w = some (.int (u32 (hH (playV B ds).1 + 1)), w1) ∧ RHs w1 B ((2, 0, 0) :: ds) ∧ DFr w w1 := by
  obtain ⟨hok, hn, n1, n6⟩ := h.n
  have hd : okD (playV B ds) (2, 0, 0) := Or.inr (Or.inr (Or.inl ⟨rfl, rfl, rfl⟩))
  obtain ⟨w1, a1, a2, a3⟩ := hs_enact h hl hd
  refine ⟨w1, ?_, a2, a3⟩
  have e := a2.2.2.2.2.1.1.2.2.1
  unfold ff_ho_hour
  simp (disch := omega) only [u32_lit, sm_let_eq, sm_bind_some, sm_cI_some, sm_cV_some, sm_cL_some, sm_rd_u, sm_wr_u, u32_add, u32_mul, u32_sub, u32_le, u32_lt, u32_eq, u32_eq_neg, u32_neg_eq, u32_neg_neg, u32_le_neg, u32_neg_lt, u32_lt_neg, u32_neg_le, u10, u01, u3n0, u1n0, u4n0, n9_lt, n1_lt, n9_neg, n1_neg, if_true, if_false, if_pos, if_neg, ne_eq, not_true_eq_false, not_false_eq_true, n1, hs_isFull0 h hl]
  rw [a1]
  simp only [sm_cV_some]
  rw [e]
  rfl
theorem ch_walk {B : HBase} {ds : List Deed} {i x : Nat} {w : sm_Mem} (h : RHs w B ds) (hl : ds.length < 40) (hi : i < B.1) (hx : x < 6) (hs : ¬ hR (playV B ds).1 i = x) : ∃ w1, ff_ho_walk (u32 i) (u32 x) w = some (.int (u32 (if hR (playV B ds).1 i ≤ x then x - hR (playV B ds).1 i else hR (playV B ds).1 i - x)), w1) ∧ RHs w1 B ((3, i, x) :: ds) ∧ DFr w w1 := by
  obtain ⟨hok, hn, n1, n6⟩ := h.n
  have hi' : i < hN (playV B ds).1 := by omega
  have hr := (hok.2.1 i hi').2.2.1
  obtain ⟨w1e, w2e, w3e, w4e⟩ := walk_way hr hx
  have cr := (h.2.2.2.2.1.1.2.1 i hi').2.2.1
  have e0 : ¬ (if hR (playV B ds).1 i ≤ x then x - hR (playV B ds).1 i else hR (playV B ds).1 i - x) = 0 := by split <;> omega
  have hd : okD (playV B ds) (3, i, x) := Or.inr (Or.inr (Or.inr ⟨rfl, hi', hx⟩))
  obtain ⟨w1, a1, a2, a3⟩ := hs_enact h hl hd
  refine ⟨w1, ?_, a2, a3⟩
  unfold ff_ho_walk
  simp (disch := omega) only [u32_lit, sm_cI_some, sm_bind_some, sm_rd_u, u10, if_false, if_true, ho_isSpeaker_good n1 n6 hi, ho_within_good hx, cr, w1e, u32_eq, n10, if_neg e0, hs_isFull0 h hl]
  rw [a1]
  rfl
theorem RHs_at {w w1 : sm_Mem} {B : HBase} {ds : List Deed} {n : Nat} (hB : BOk B) (h2 : CB w B) (hl : ds.length ≤ 40) (h5 : validV B ds) (hd : CDl w 45 ds) (hn : n ≤ ds.length) (a2 : CHX w1 (playV B (ds.drop (ds.length - n)))) (a3 : w1.1 45 3 = u32 n) (a4 : ∀ a, (a < 36 ∨ 45 < a ∨ a = 37 ∨ a = 38 ∨ a = 39 ∨ a = 40) → w1.1 a = w.1 a) : RHs w1 B (ds.drop (ds.length - n)) := by
  have hlen : (ds.drop (ds.length - n)).length = n := by rw [List.length_drop]; omega
  refine ⟨hB, fun i hi => ?_, by omega, validV_drop _ ds h5, a2, ⟨by rw [hlen]; exact a3, CDl_fr _ (fun j _ => ?_) (CDl_drop _ ds hd)⟩⟩
  · rw [a4 39 (by omega), a4 40 (by omega)]; exact h2 i hi
  · rw [a4 (45 + 1) (by omega), a4 (45 + 2) (by omega), a4 (45 + 3) (by omega)]
    exact ⟨rfl, rfl, rfl⟩
theorem ch_undo {B : HBase} {ds : List Deed} {n : Nat} {w : sm_Mem} (h : RHs w B ds) (hn : n ≤ ds.length) : ∃ w1, ff_ho_undo (u32 n) w = some (.int (u32 (ds.length - n)), w1) ∧ RHs w1 B (ds.drop (ds.length - n)) ∧ DFr w w1 := by
  obtain ⟨-, -, n1, n6⟩ := h.n
  obtain ⟨h1, h2, h4, h5, h6, h7⟩ := id h
  have c1 := h7.1
  obtain ⟨w1, a1, a2, a3, a4, a5⟩ := hs_goBackTo (n := n) (w := w) h1 h4 h5 hn n1 h.base h2 h7.2
  refine ⟨w1, ?_, RHs_at h1 h2 h4 h5 h7.2 hn a2 a3 a4, ⟨fun a ha => a4 a (by omega), a5⟩⟩
  unfold ff_ho_undo
  simp (disch := omega) only [u32_lit, sm_let_eq, sm_bind_some, sm_cI_some, sm_cV_some, sm_cL_some, sm_rd_u, sm_wr_u, u32_add, u32_mul, u32_sub, u32_le, u32_lt, u32_eq, u32_eq_neg, u32_neg_eq, u32_neg_neg, u32_le_neg, u32_neg_lt, u32_lt_neg, u32_neg_le, u10, u01, u3n0, u1n0, u4n0, n9_lt, n1_lt, n9_neg, n1_neg, if_true, if_false, if_pos, if_neg, ne_eq, not_true_eq_false, not_false_eq_true, c1, a1]
theorem ch_keep {B : HBase} {ds : List Deed} {k : Nat} {w : sm_Mem} (h : RHs w B ds) (hk : k < 3) (h0 : ¬ B.1 = 0) : ∃ w1, ff_ho_keep (u32 k) w = some (.int (u32 ds.length), w1) ∧ CD w1 (24 + 4 * k) ds ∧ (∀ a, (a < 24 + 4 * k ∨ 24 + 4 * k + 3 < a) → w1.1 a = w.1 a) ∧ w1.2 = w.2 := by
  obtain ⟨-, -, n1, n6⟩ := h.n
  obtain ⟨h1, h2, h4, h5, h6, h7⟩ := id h
  have hD := isDeeds_kept hk
  obtain ⟨w1, a1, a2, a3, a4⟩ := de_become (w := w) hD isDeeds_home (by omega) h4 h7
  refine ⟨w1, ?_, a2, a3, a4⟩
  unfold ff_ho_keep
  simp (disch := omega) only [u32_lit, sm_let_eq, sm_bind_some, sm_cI_some, sm_cV_some, sm_cL_some, sm_rd_u, sm_wr_u, u32_add, u32_mul, u32_sub, u32_le, u32_lt, u32_eq, u32_eq_neg, u32_neg_eq, u32_neg_neg, u32_le_neg, u32_neg_lt, u32_lt_neg, u32_neg_le, u10, u01, u3n0, u1n0, u4n0, n9_lt, n1_lt, n9_neg, n1_neg, if_true, if_false, if_pos, if_neg, ne_eq, not_true_eq_false, not_false_eq_true, ho_within_good hk, n1, rr_kept hk, hD.rc, a1, hD.gI, a2.1]
theorem ch_on {B : HBase} {ds l : List Deed} {k : Nat} {w : sm_Mem} (h : RHs w B ds) (hk : k < 3) (c1 : l.length ≤ 40) (c2 : validV B l) (c3 : CD w (24 + 4 * k) l) : ∃ w1, ff_ho_on (u32 k) w = some (.int (u32 l.length), w1) ∧ RHs w1 B l ∧ DFr w w1 := by
  obtain ⟨-, -, n1, n6⟩ := h.n
  obtain ⟨h1, h2, h4, h5, h6, h7⟩ := id h
  have hD := isDeeds_kept hk
  obtain ⟨w1, a1, a2, a3, a4⟩ := de_become (w := w) isDeeds_home hD (by omega) c1 c3
  have h2' : CB w1 B := fun i hi => by rw [a3 39 (by omega), a3 40 (by omega)]; exact h2 i hi
  obtain ⟨w2, b1, b2, b3, b4, b5⟩ := hs_goBackTo (n := l.length) (w := w1) h1 c1 c2 (Nat.le_refl _) (by rw [a3 36 (by omega)]; exact n1) (fun i hi => by rw [a3 37 (by omega), a3 38 (by omega)]; exact h.base i hi) h2' a2.2
  have hR := RHs_at h1 h2' c1 c2 a2.2 (Nat.le_refl _) b2 b3 b4
  rw [Nat.sub_self] at hR
  refine ⟨w2, ?_, hR, ⟨fun a ha => (b4 a (by omega)).trans (a3 a (by omega)), b5.trans a4⟩⟩
  unfold ff_ho_on ff_de_isMissing
  simp (disch := omega) only [u32_lit, sm_let_eq, sm_bind_some, sm_cI_some, sm_cV_some, sm_cL_some, sm_rd_u, sm_wr_u, u32_add, u32_mul, u32_sub, u32_le, u32_lt, u32_eq, u32_eq_neg, u32_neg_eq, u32_neg_neg, u32_le_neg, u32_neg_lt, u32_lt_neg, u32_neg_le, u10, u01, u3n0, u1n0, u4n0, n9_lt, n1_lt, n9_neg, n1_neg, if_true, if_false, if_pos, if_neg, ne_eq, not_true_eq_false, not_false_eq_true, ho_within_good hk, rr_kept hk, hD.rc, hD.gI, c3.1, Nat.zero_le, a1, a2.1, b1, b3]
