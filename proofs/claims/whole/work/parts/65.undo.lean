/-! pure: undo, keep, on -/
theorem pastM_drop {w : sm_Mem} {B : HBase} {b : Nat} : ∀ (k : Nat) (ds : List Deed), pastM w B b ds → pastM w B b (ds.drop k)
  | 0, ds, h => h
  | k + 1, [], h => trivial
  | k + 1, d :: r, h => pastM_drop k r h.2
theorem pastM_at {w : sm_Mem} {B : HBase} {b : Nat} : ∀ (ds : List Deed) (n : Nat), n < ds.length → pastM w B b ds → MHX w (b + 31 + 31 * n) (playV B (ds.drop (ds.length - n)))
  | [], n, hn, _ => absurd hn (Nat.not_lt_zero _)
  | d :: r, n, hn, h => by
    rw [List.length_cons] at hn
    by_cases hnr : n = r.length
    · subst hnr
      rw [List.length_cons, show r.length + 1 - r.length = 1 by omega]
      exact h.1
    · have := pastM_at r n (by omega) h.2
      rw [List.length_cons, show r.length + 1 - n = (r.length - n) + 1 by omega]
      exact this
theorem mo_undo_loop {n m0 : Nat} (hn : n < 40) (hm0 : 0 < m0) (hm4 : m0 ≤ 40) : ∀ (m i F : Nat) (w : sm_Mem), i + m = 31 → m < F → ∃ w1, ff_mo_undo_29_f F (u32 n) (u32 m0) (u32 i) w = some (.int (u32 m0), w1) ∧ w1.1 63 0 = u32 n ∧ (∀ k, i ≤ k → k < 31 → w1.1 63 (1 + k) = w.1 63 (32 + 31 * n + k)) ∧ QFr (fun j => (1 ≤ j ∧ j < 1 + i) ∨ 32 ≤ j) w w1 := by
  intro m
  induction m with
  | zero =>
    intro i F w hm hF
    obtain ⟨F, rfl⟩ : ∃ G, F = G + 1 := ⟨F - 1, by omega⟩
    refine ⟨sm_wI w 63 0 (u32 n), ?_, sm_wI_eq, fun k a b => absurd a (by omega), QFr.wI (by omega)⟩
    rw [ff_mo_undo_29_f]
    unfold ff_mo_undo_29_b ff_mo_undo_67
    simp (disch := omega) only [u32_lit, sm_let_eq, sm_bind_some, sm_cI_some, sm_cV_some, sm_cL_some, sm_rd_u, sm_wr_u, u32_add, u32_mul, u32_sub, u32_le, u32_lt, u32_eq, u32_eq_neg, u32_neg_eq, u32_neg_neg, u32_le_neg, u32_neg_lt, u32_lt_neg, u32_neg_le, u10, u01, u3n0, u1n0, u4n0, n9_lt, n1_lt, n9_neg, n1_neg, if_true, if_false, if_pos, if_neg, ne_eq, not_true_eq_false, not_false_eq_true]
  | succ m ih =>
    intro i F w hm hF
    obtain ⟨F, rfl⟩ : ∃ G, F = G + 1 := ⟨F - 1, by omega⟩
    obtain ⟨w1, a1, a2, a3, a4⟩ := ih (i + 1) F (sm_wI w 63 (1 + i) (w.1 63 (32 + 31 * n + i))) (by omega) (by omega)
    refine ⟨w1, ?_, a2, fun k b1 b2 => ?_, QFr.trans (QFr.wI (by omega)) (a4.imp (fun j hj => by omega))⟩
    · rw [ff_mo_undo_29_f]
      unfold ff_mo_undo_29_b
      simp (disch := omega) only [u32_lit, sm_let_eq, sm_bind_some, sm_cI_some, sm_cV_some, sm_cL_some, sm_rd_u, sm_wr_u, u32_add, u32_mul, u32_sub, u32_le, u32_lt, u32_eq, u32_eq_neg, u32_neg_eq, u32_neg_neg, u32_le_neg, u32_neg_lt, u32_lt_neg, u32_neg_le, u10, u01, u3n0, u1n0, u4n0, n9_lt, n1_lt, n9_neg, n1_neg, if_true, if_false, if_pos, if_neg, ne_eq, not_true_eq_false, not_false_eq_true]
      exact a1
    · by_cases hk : k = i
      · subst hk
        rw [a4.2.1 _ (by omega), sm_wI_eq]
      · rw [a3 k (by omega) b2]
        simp (disch := omega) only [sm_wI_ne, sm_wI_nj, sm_wI_eq, sm_wA_ne, sm_wA_eq]
theorem RHs_back {w w1 w2 : sm_Mem} {B : HBase} {ds : List Deed} {n : Nat} (h : RHs w B ds) (hn : n ≤ ds.length) (a1 : CHX w1 (playV B (ds.drop (ds.length - n)))) (a2 : w1.1 45 3 = u32 n) (a3 : ∀ a, (a < 36 ∨ 45 < a ∨ a = 37 ∨ a = 38 ∨ a = 39 ∨ a = 40) → w1.1 a = w.1 a) (b1 : w2.1 63 0 = u32 n) (b2 : MHX w2 0 (playV B (ds.drop (ds.length - n)))) (b3 : QFr (fun j => 32 ≤ j) w1 w2) : RHs w2 B (ds.drop (ds.length - n)) := by
  obtain ⟨h1, h2, h3, h4, h5, h6, h7, h8, h9⟩ := h
  have hlen : (ds.drop (ds.length - n)).length = n := by rw [List.length_drop]; omega
  have e : ∀ a, (a < 36 ∨ (45 < a ∧ a ≠ 63) ∨ a = 37 ∨ a = 38 ∨ a = 39 ∨ a = 40) → w2.1 a = w.1 a := fun a ha => (b3.1 a (by omega)).trans (a3 a (by omega))
  have e63 : ∀ j, 32 ≤ j → w2.1 63 j = w.1 63 j := fun j hj => (b3.2.1 j hj).trans (by rw [a3 63 (by omega)])
  refine ⟨h1, fun i hi => ?_, fun i hi => ?_, by omega, validV_drop _ ds h5, ⟨CH_fr (fun a c1 c2 => b3.1 a (by omega)) a1.1, ?_⟩, ⟨?_, CDl_fr _ (fun j _ => ?_) (CDl_drop _ ds h7.2)⟩, ⟨?_, b2, ?_⟩, fun k hk => ?_⟩
  · rw [e 39 (by omega), e 40 (by omega)]; exact h2 i hi
  · rw [e 66 (by omega)]; exact h3 i hi
  · rw [b3.1 36 (by decide)]; exact a1.2
  · rw [b3.1 45 (by decide), hlen]; exact a2
  · rw [e (45 + 1) (by omega), e (45 + 2) (by omega), e (45 + 3) (by omega)]
    exact ⟨rfl, rfl, rfl⟩
  · rw [hlen]; exact b1
  · exact pastM_fr (w := w) (b := 0) h1 (by rw [e 62 (by omega)]) (e 64 (by omega)) (e 65 (by omega)) _ (by omega) (validV_drop _ ds h5) (fun j c1 c2 => e63 _ (by omega)) (pastM_drop _ ds h8.2.2)
  · rcases h9 k hk with ⟨c1, c2⟩ | ⟨l, c1, c2, c3, c4⟩
    · exact Or.inl ⟨by rw [e _ (by omega)]; exact c1, by rw [e63 _ (by omega)]; exact c2⟩
    · refine Or.inr ⟨l, c1, c2, ⟨by rw [e _ (by omega)]; exact c3.1, CDl_fr l (fun j hj => ?_) c3.2⟩, MKept_fr h1 c1 c2 (by rw [e 62 (by omega)]) (e 64 (by omega)) (e 65 (by omega)) (fun j hj => e63 _ (by omega)) c4⟩
      rw [e (24 + 4 * k + 1) (by omega), e (24 + 4 * k + 2) (by omega), e (24 + 4 * k + 3) (by omega)]
      exact ⟨rfl, rfl, rfl⟩
theorem RHs.base {w : sm_Mem} {B : HBase} {ds : List Deed} (h : RHs w B ds) : ∀ i, i < B.1 → w.1 37 i = u32 (B.2.1 i) ∧ w.1 38 i = u32 (B.2.2.1 i) := by
  obtain ⟨h1, h2, h3, h4, h5, h6, h7, h8, h9⟩ := h
  have key : ∀ (ds : List Deed), (∀ i, hK (playV B ds).1 i = B.2.1 i) ∧ (∀ i, hW (playV B ds).1 i = B.2.2.1 i) := by
    intro ds
    induction ds with
    | nil => exact ⟨fun _ => rfl, fun _ => rfl⟩
    | cons d r ih =>
      have e : hK (playV B (d :: r)).1 = hK (playV B r).1 ∧ hW (playV B (d :: r)).1 = hW (playV B r).1 := by
        show hK (perfV B (playV B r) d).1 = _ ∧ hW (perfV B (playV B r) d).1 = _
        unfold perfV
        split <;> exact ⟨rfl, rfl⟩
      rw [e.1, e.2]
      exact ih
  obtain ⟨k1, k2⟩ := key ds
  have hn := (playV_ok h1 ds h4 h5).2
  intro i hi
  have := h6.1.2.1 i (by omega)
  rw [← k1 i, ← k2 i]
  exact ⟨this.1, this.2.1⟩
theorem op_undo {n : Int32} {w : sm_Mem} (h : R w) : Both (ff_ho_undo n) (ff_mo_undo n) R w := by
  obtain ⟨hc, B, ds, hh⟩ := id h
  obtain ⟨hok, hn, n1, n2, n6⟩ := hh.n
  obtain ⟨h1, h2, h3, h4, h5, h6, h7, h8, h9⟩ := id hh
  have c1 := h7.1
  have m1 := h8.1
  have mb : ((u32 ds.length).toInt64).toInt = ((ds.length + 1 : Nat) : Int) - 1 := by
    rw [Int32.toInt_toInt64, u32_toInt (by omega)]
    omega
  rcases aCases n (ds.length + 1) with hbad | ⟨n, hn2, -, rfl⟩
  · have hq : ∀ w, ff_mo_in n.toInt64 0 (u32 ds.length).toInt64 w = some (.int (u32 0), w) := fun w => mo_in_bad hbad mb
    refine BothR_same h (-u32 1) ?_ ?_
    · unfold ff_ho_undo
      rcases hbad with hb | ⟨n, b1, b2, rfl⟩
      · simp only [u32_lit, hb, if_true]
      · simp (disch := omega) only [u32_lit, sm_let_eq, sm_bind_some, sm_cI_some, sm_cV_some, sm_cL_some, sm_rd_u, sm_wr_u, u32_add, u32_mul, u32_sub, u32_le, u32_lt, u32_eq, u32_eq_neg, u32_neg_eq, u32_neg_neg, u32_le_neg, u32_neg_lt, u32_lt_neg, u32_neg_le, u10, u01, u3n0, u1n0, u4n0, n9_lt, n1_lt, n9_neg, n1_neg, if_true, if_false, if_pos, if_neg, ne_eq, not_true_eq_false, not_false_eq_true, c1]
    · unfold ff_mo_undo
      simp (disch := omega) only [u32_lit, sm_let_eq, sm_bind_some, sm_cI_some, sm_cV_some, sm_cL_some, sm_rd_u, sm_wr_u, u32_add, u32_mul, u32_sub, u32_le, u32_lt, u32_eq, u32_eq_neg, u32_neg_eq, u32_neg_neg, u32_le_neg, u32_neg_lt, u32_lt_neg, u32_neg_le, u10, u01, u3n0, u1n0, u4n0, n9_lt, n1_lt, n9_neg, n1_neg, if_true, if_false, if_pos, if_neg, ne_eq, not_true_eq_false, not_false_eq_true, m1, hq]
  · have hq : ∀ w, ff_mo_in (u32 n).toInt64 0 (u32 ds.length).toInt64 w = some (.int (u32 1), w) := fun w => mo_in_good hn2 (by omega) mb
    obtain ⟨w1, a1, a2, a3, a4, a5⟩ := hs_goBackTo (n := n) (w := w) h1 h4 h5 (by omega) n1 hh.base h2 h7.2
    have m1' : w1.1 63 0 = u32 ds.length := by rw [a4 63 (by omega)]; exact m1
    have hc1 : ff_ho_undo (u32 n) w = some (.int (u32 (ds.length - n)), w1) := by
      unfold ff_ho_undo
      simp (disch := omega) only [u32_lit, sm_let_eq, sm_bind_some, sm_cI_some, sm_cV_some, sm_cL_some, sm_rd_u, sm_wr_u, u32_add, u32_mul, u32_sub, u32_le, u32_lt, u32_eq, u32_eq_neg, u32_neg_eq, u32_neg_neg, u32_le_neg, u32_neg_lt, u32_lt_neg, u32_neg_le, u10, u01, u3n0, u1n0, u4n0, n9_lt, n1_lt, n9_neg, n1_neg, if_true, if_false, if_pos, if_neg, ne_eq, not_true_eq_false, not_false_eq_true, c1, a1]
    have m0 : MKept w1 B 0 ds := MKept_fr h1 h4 h5 (by rw [a4 62 (by omega)]) (a4 64 (by omega)) (a4 65 (by omega)) (fun j _ => by rw [a4 63 (by omega)]) h8
    have hok2 := (playV_ok h1 (ds.drop (ds.length - n)) (by rw [List.length_drop]; omega) (validV_drop _ ds h5)).1
    have hR2 : ∀ w2, w2.1 63 0 = u32 n → MHX w2 0 (playV B (ds.drop (ds.length - n))) → QFr (fun j => 32 ≤ j) w1 w2 → R w2 := by
      intro w2 b1 b2 b3
      exact ⟨RC_fr (fun a ha => by rw [b3.1 a (by omega), a4 a (by omega)]) (b3.2.2.trans a5) hc, B, _, RHs_back hh (by omega) a2 a3 a4 b1 b2 b3⟩
    by_cases hlt : n < ds.length
    · obtain ⟨w2, b1, b2, b3, b4⟩ := mo_undo_loop (n := n) (m0 := ds.length - n) (by omega) (by omega) (by omega) 31 0 1000000 w1 (by omega) (by omega)
      refine Both_mk _ w1 w2 hc1 ?_ (hR2 w2 b2 (MHX_fr hok2 (by rw [b4.1 62 (by decide)]) (b4.1 64 (by decide)) (b4.1 65 (by decide)) (fun j d1 d2 => ?_) (pastM_at ds n hlt m0.2.2)) (b4.imp (fun j hj => by omega)))
      · unfold ff_mo_undo ff_mo_undo_29
        simp (disch := omega) only [u32_lit, sm_let_eq, sm_bind_some, sm_cI_some, sm_cV_some, sm_cL_some, sm_rd_u, sm_wr_u, u32_add, u32_mul, u32_sub, u32_le, u32_lt, u32_eq, u32_eq_neg, u32_neg_eq, u32_neg_neg, u32_le_neg, u32_neg_lt, u32_lt_neg, u32_neg_le, u10, u01, u3n0, u1n0, u4n0, n9_lt, n1_lt, n9_neg, n1_neg, if_true, if_false, if_pos, if_neg, ne_eq, not_true_eq_false, not_false_eq_true, m1', hq, sm_N_eq]
        exact b1
      · have := b3 (j - 1) (by omega) (by omega)
        rw [show 0 + j = 1 + (j - 1) by omega, this, show 0 + 31 + 31 * n + j = 32 + 31 * n + (j - 1) by omega]
    · have e : n = ds.length := by omega
      subst e
      refine Both_mk _ w1 (sm_wI w1 63 0 (u32 ds.length)) hc1 ?_ (hR2 _ sm_wI_eq ?_ (QFr.wI (by omega)))
      · unfold ff_mo_undo ff_mo_undo_29
        simp (disch := omega) only [u32_lit, sm_let_eq, sm_bind_some, sm_cI_some, sm_cV_some, sm_cL_some, sm_rd_u, sm_wr_u, u32_add, u32_mul, u32_sub, u32_le, u32_lt, u32_eq, u32_eq_neg, u32_neg_eq, u32_neg_neg, u32_le_neg, u32_neg_lt, u32_lt_neg, u32_neg_le, u10, u01, u3n0, u1n0, u4n0, n9_lt, n1_lt, n9_neg, n1_neg, if_true, if_false, if_pos, if_neg, ne_eq, not_true_eq_false, not_false_eq_true, m1', hq, sm_N_eq]
        rw [show (1000000 : Nat) = 999999 + 1 from rfl, ff_mo_undo_29_f]
        unfold ff_mo_undo_29_b ff_mo_undo_67
        simp (disch := omega) only [u32_lit, sm_let_eq, sm_bind_some, sm_cI_some, sm_cV_some, sm_cL_some, sm_rd_u, sm_wr_u, u32_add, u32_mul, u32_sub, u32_le, u32_lt, u32_eq, u32_eq_neg, u32_neg_eq, u32_neg_neg, u32_le_neg, u32_neg_lt, u32_lt_neg, u32_neg_le, u10, u01, u3n0, u1n0, u4n0, n9_lt, n1_lt, n9_neg, n1_neg, if_true, if_false, if_pos, if_neg, ne_eq, not_true_eq_false, not_false_eq_true]
      · rw [Nat.sub_self]
        show MHX _ 0 (playV B ds)
        exact MHX_fr hok (by rw [sm_wI_ne (by decide)]) (sm_wI_ne (by decide)) (sm_wI_ne (by decide)) (fun j d1 d2 => sm_wI_nj (by omega)) m0.2.1
