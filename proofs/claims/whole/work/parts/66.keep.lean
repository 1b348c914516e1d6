/-! pure: keep, on -/
theorem de_become_loop {a0 a1 n : Nat} (hA : isDeeds a0) (hB : isDeeds a1) (hd : a1 + 3 < a0 ∨ a0 + 3 < a1) (hn : n ≤ 40) : ∀ (m i F : Nat) (w : sm_Mem), i + m = n → m < F → w.1 a0 3 = u32 n → ∃ w1, ff_de_become_10_f F a0 a1 (u32 i) w = some (.null, w1) ∧ (∀ j, i ≤ j → j < n → w1.1 (a0 + 1) j = w.1 (a1 + 1) j ∧ w1.1 (a0 + 2) j = w.1 (a1 + 2) j ∧ w1.1 (a0 + 3) j = w.1 (a1 + 3) j) ∧ (∀ j, j < i → w1.1 (a0 + 1) j = w.1 (a0 + 1) j ∧ w1.1 (a0 + 2) j = w.1 (a0 + 2) j ∧ w1.1 (a0 + 3) j = w.1 (a0 + 3) j) ∧ (∀ a, (a ≤ a0 ∨ a0 + 3 < a) → w1.1 a = w.1 a) ∧ w1.2 = w.2 := by
  intro m
  induction m with
  | zero =>
    intro i F w hm hF hw
    obtain ⟨F, rfl⟩ : ∃ G, F = G + 1 := ⟨F - 1, by omega⟩
    refine ⟨w, ?_, fun j a b => absurd a (by omega), fun j _ => ⟨rfl, rfl, rfl⟩, fun _ _ => rfl, rfl⟩
    rw [ff_de_become_10_f]
    unfold ff_de_become_10_b
    simp (disch := omega) only [u32_lit, sm_let_eq, sm_bind_some, sm_cI_some, sm_cV_some, sm_cL_some, sm_rd_u, sm_wr_u, u32_add, u32_mul, u32_sub, u32_le, u32_lt, u32_eq, u32_eq_neg, u32_neg_eq, u32_neg_neg, u32_le_neg, u32_neg_lt, u32_lt_neg, u32_neg_le, u10, u01, u3n0, u1n0, u4n0, n9_lt, n1_lt, n9_neg, n1_neg, if_true, if_false, if_pos, if_neg, ne_eq, not_true_eq_false, not_false_eq_true, hA.gI, hw]
  | succ m ih =>
    intro i F w hm hF hw
    obtain ⟨F, rfl⟩ : ∃ G, F = G + 1 := ⟨F - 1, by omega⟩
    have f0 := hA.1
    have f1 := hA.2.1
    have f2 := hA.2.2.1
    have g0 := hB.1
    have g1 := hB.2.1
    have g2 := hB.2.2.1
    have hi : i < 40 := by omega
    have r1 : ∀ w, sm_rds w (a1 + 1) (u32 i) = some (w.1 (a1 + 1) i) := fun w => hB.rds hi (Or.inl rfl)
    have r2 : ∀ w, sm_rds w (a1 + 2) (u32 i) = some (w.1 (a1 + 2) i) := fun w => hB.rds hi (Or.inr (Or.inl rfl))
    have r3 : ∀ w, sm_rds w (a1 + 3) (u32 i) = some (w.1 (a1 + 3) i) := fun w => hB.rds hi (Or.inr (Or.inr rfl))
    have s1 : ∀ w x, sm_wrs w (a0 + 1) (u32 i) x = some (sm_wI w (a0 + 1) i x) := fun w x => hA.wrs hi (Or.inl rfl)
    have s2 : ∀ w x, sm_wrs w (a0 + 2) (u32 i) x = some (sm_wI w (a0 + 2) i x) := fun w x => hA.wrs hi (Or.inr (Or.inl rfl))
    have s3 : ∀ w x, sm_wrs w (a0 + 3) (u32 i) x = some (sm_wI w (a0 + 3) i x) := fun w x => hA.wrs hi (Or.inr (Or.inr rfl))
    obtain ⟨w1, b1, b2, b3, b4, b5⟩ := ih (i + 1) F (sm_wI (sm_wI (sm_wI w (a0 + 1) i (w.1 (a1 + 1) i)) (a0 + 2) i (w.1 (a1 + 2) i)) (a0 + 3) i (w.1 (a1 + 3) i)) (by omega) (by omega) (by simp (disch := omega) only [sm_wI_ne, sm_wI_nj, sm_wI_eq, sm_wA_ne, sm_wA_eq]; exact hw)
    refine ⟨w1, ?_, fun j c1 c2 => ?_, fun j c1 => ?_, fun a ha => ?_, b5⟩
    · rw [ff_de_become_10_f]
      unfold ff_de_become_10_b
      simp (disch := omega) only [u32_lit, sm_let_eq, sm_bind_some, sm_cI_some, sm_cV_some, sm_cL_some, sm_rd_u, sm_wr_u, u32_add, u32_mul, u32_sub, u32_le, u32_lt, u32_eq, u32_eq_neg, u32_neg_eq, u32_neg_neg, u32_le_neg, u32_neg_lt, u32_lt_neg, u32_neg_le, u10, u01, u3n0, u1n0, u4n0, n9_lt, n1_lt, n9_neg, n1_neg, if_true, if_false, if_pos, if_neg, ne_eq, not_true_eq_false, not_false_eq_true, hA.gI, hw, f0, f1, f2, g0, g1, g2, r1, r2, r3, s1, s2, s3, sm_wI_ne, sm_wI_nj, sm_wI_eq, sm_wA_ne, sm_wA_eq]
      exact b1
    · by_cases hji : j = i
      · subst hji
        obtain ⟨d1, d2, d3⟩ := b3 j (by omega)
        rw [d1, d2, d3]
        simp (disch := omega) only [sm_wI_ne, sm_wI_nj, sm_wI_eq, sm_wA_ne, sm_wA_eq, and_self]
      · obtain ⟨d1, d2, d3⟩ := b2 j (by omega) c2
        rw [d1, d2, d3]
        simp (disch := omega) only [sm_wI_ne, sm_wI_nj, sm_wI_eq, sm_wA_ne, sm_wA_eq, and_self]
    · obtain ⟨d1, d2, d3⟩ := b3 j (by omega)
      rw [d1, d2, d3]
      simp (disch := omega) only [sm_wI_ne, sm_wI_nj, sm_wI_eq, sm_wA_ne, sm_wA_eq, and_self]
    · rw [b4 a ha]
      simp (disch := omega) only [sm_wI_ne, sm_wI_nj, sm_wI_eq, sm_wA_ne, sm_wA_eq]
theorem de_become {a0 a1 : Nat} {ds : List Deed} {w : sm_Mem} (hA : isDeeds a0) (hB : isDeeds a1) (hd : a1 + 3 < a0 ∨ a0 + 3 < a1) (hn : ds.length ≤ 40) (h : CD w a1 ds) : ∃ w1, ff_de_become a0 a1 w = some (.null, w1) ∧ CD w1 a0 ds ∧ (∀ a, (a < a0 ∨ a0 + 3 < a) → w1.1 a = w.1 a) ∧ w1.2 = w.2 := by
  obtain ⟨w1, b1, b2, b3, b4, b5⟩ := de_become_loop hA hB hd hn ds.length 0 1000000 (sm_wI w a0 3 (u32 ds.length)) (by omega) (by omega) sm_wI_eq
  refine ⟨w1, ?_, ⟨?_, CDl_fr (w := w) (c := a1) ds (fun j hj => ?_) h.2⟩, fun a ha => ?_, b5⟩
  · unfold ff_de_become ff_de_become_10
    simp (disch := omega) only [u32_lit, sm_let_eq, sm_bind_some, sm_cI_some, sm_cV_some, sm_cL_some, sm_rd_u, sm_wr_u, u32_add, u32_mul, u32_sub, u32_le, u32_lt, u32_eq, u32_eq_neg, u32_neg_eq, u32_neg_neg, u32_le_neg, u32_neg_lt, u32_lt_neg, u32_neg_le, u10, u01, u3n0, u1n0, u4n0, n9_lt, n1_lt, n9_neg, n1_neg, if_true, if_false, if_pos, if_neg, ne_eq, not_true_eq_false, not_false_eq_true, hB.gI, h.1, hA.pI, sm_N_eq]
    exact b1
  · rw [b4 a0 (by omega), sm_wI_eq]
  · obtain ⟨d1, d2, d3⟩ := b2 j (by omega) hj
    rw [d1, d2, d3]
    simp (disch := omega) only [sm_wI_ne, sm_wI_nj, sm_wI_eq, sm_wA_ne, sm_wA_eq, and_self]
  · rw [b4 a (by omega), sm_wI_ne (by omega)]
theorem mo_copyHouse_loop {a b : Nat} (ha : a ≤ 3816) (hb : b ≤ 3816) (hd : a + 1272 ≤ b ∨ b + 1272 ≤ a) : ∀ (m i F : Nat) (w : sm_Mem), i + m = 1272 → m < F → ∃ w1, ff_mo_copyHouse_2_f F (u32 a) (u32 b) (u32 i) w = some (.null, w1) ∧ (∀ k, i ≤ k → k < 1272 → w1.1 63 (b + k) = w.1 63 (a + k)) ∧ QFr (fun j => j < b + i ∨ b + 1272 ≤ j) w w1 := by
  intro m
  induction m with
  | zero =>
    intro i F w hm hF
    obtain ⟨F, rfl⟩ : ∃ G, F = G + 1 := ⟨F - 1, by omega⟩
    refine ⟨w, ?_, fun k a b => absurd a (by omega), QFr.refl⟩
    rw [ff_mo_copyHouse_2_f]
    unfold ff_mo_copyHouse_2_b
    simp (disch := omega) only [u32_lit, sm_let_eq, sm_bind_some, sm_cI_some, sm_cV_some, sm_cL_some, sm_rd_u, sm_wr_u, u32_add, u32_mul, u32_sub, u32_le, u32_lt, u32_eq, u32_eq_neg, u32_neg_eq, u32_neg_neg, u32_le_neg, u32_neg_lt, u32_lt_neg, u32_neg_le, u10, u01, u3n0, u1n0, u4n0, n9_lt, n1_lt, n9_neg, n1_neg, if_true, if_false, if_pos, if_neg, ne_eq, not_true_eq_false, not_false_eq_true]
  | succ m ih =>
    intro i F w hm hF
    obtain ⟨F, rfl⟩ : ∃ G, F = G + 1 := ⟨F - 1, by omega⟩
    obtain ⟨w1, a1, a2, a3⟩ := ih (i + 1) F (sm_wI w 63 (b + i) (w.1 63 (a + i))) (by omega) (by omega)
    refine ⟨w1, ?_, fun k b1 b2 => ?_, QFr.trans (QFr.wI (by omega)) (a3.imp (fun j hj => by omega))⟩
    · rw [ff_mo_copyHouse_2_f]
      unfold ff_mo_copyHouse_2_b
      simp (disch := omega) only [u32_lit, sm_let_eq, sm_bind_some, sm_cI_some, sm_cV_some, sm_cL_some, sm_rd_u, sm_wr_u, u32_add, u32_mul, u32_sub, u32_le, u32_lt, u32_eq, u32_eq_neg, u32_neg_eq, u32_neg_neg, u32_le_neg, u32_neg_lt, u32_lt_neg, u32_neg_le, u10, u01, u3n0, u1n0, u4n0, n9_lt, n1_lt, n9_neg, n1_neg, if_true, if_false, if_pos, if_neg, ne_eq, not_true_eq_false, not_false_eq_true]
      exact a1
    · by_cases hk : k = i
      · subst hk
        rw [a3.2.1 _ (by omega), sm_wI_eq]
      · rw [a2 k (by omega) b2]
        simp (disch := omega) only [sm_wI_ne, sm_wI_nj, sm_wI_eq, sm_wA_ne, sm_wA_eq]
theorem mo_copyHouse {a b : Nat} {w : sm_Mem} (ha : a ≤ 3816) (hb : b ≤ 3816) (hd : a + 1272 ≤ b ∨ b + 1272 ≤ a) : ∃ w1, ff_mo_copyHouse (u32 a) (u32 b) w = some (.null, w1) ∧ (∀ k, k < 1272 → w1.1 63 (b + k) = w.1 63 (a + k)) ∧ QFr (fun j => j < b ∨ b + 1272 ≤ j) w w1 := by
  unfold ff_mo_copyHouse ff_mo_copyHouse_2
  rw [sm_N_eq, u32_lit]
  obtain ⟨w1, a1, a2, a3⟩ := mo_copyHouse_loop ha hb hd 1272 0 1000000 w (by omega) (by omega)
  exact ⟨w1, a1, fun k hk => a2 k (by omega) hk, a3.imp (fun j hj => by omega)⟩
theorem op_keep {k : Int32} {w : sm_Mem} (h : R w) : Both (ff_ho_keep k) (ff_mo_keep k) R w := by
  obtain ⟨hc, B, ds, hh⟩ := id h
  obtain ⟨hok, hn, n1, n2, n6⟩ := hh.n
  obtain ⟨h1, h2, h3, h4, h5, h6, h7, h8, h9⟩ := id hh
  rcases aCases k 3 with hk | ⟨k, hk, -, rfl⟩
  · have hq : ∀ w, ff_mo_in k.toInt64 0 2 w = some (.int (u32 0), w) := fun w => mo_in_bad hk rfl
    refine BothR_same h (-u32 1) ?_ ?_
    · unfold ff_ho_keep
      simp (disch := omega) only [u32_lit, sm_let_eq, sm_bind_some, sm_cI_some, sm_cV_some, sm_cL_some, sm_rd_u, sm_wr_u, u32_add, u32_mul, u32_sub, u32_le, u32_lt, u32_eq, u32_eq_neg, u32_neg_eq, u32_neg_neg, u32_le_neg, u32_neg_lt, u32_lt_neg, u32_neg_le, u10, u01, u3n0, u1n0, u4n0, n9_lt, n1_lt, n9_neg, n1_neg, if_true, if_false, if_pos, if_neg, ne_eq, not_true_eq_false, not_false_eq_true, ho_within_bad hk]
    · unfold ff_mo_keep
      simp (disch := omega) only [u32_lit, sm_let_eq, sm_bind_some, sm_cI_some, sm_cV_some, sm_cL_some, sm_rd_u, sm_wr_u, u32_add, u32_mul, u32_sub, u32_le, u32_lt, u32_eq, u32_eq_neg, u32_neg_eq, u32_neg_neg, u32_le_neg, u32_neg_lt, u32_lt_neg, u32_neg_le, u10, u01, u3n0, u1n0, u4n0, n9_lt, n1_lt, n9_neg, n1_neg, if_true, if_false, if_pos, if_neg, ne_eq, not_true_eq_false, not_false_eq_true, hq]
  have hq : ∀ w, ff_mo_in (u32 k).toInt64 0 2 w = some (.int (u32 1), w) := fun w => mo_in_good hk (by decide) rfl
  by_cases h0 : B.1 = 0
  · refine BothR_same h (-u32 4) ?_ ?_
    · unfold ff_ho_keep
      simp (disch := omega) only [u32_lit, sm_let_eq, sm_bind_some, sm_cI_some, sm_cV_some, sm_cL_some, sm_rd_u, sm_wr_u, u32_add, u32_mul, u32_sub, u32_le, u32_lt, u32_eq, u32_eq_neg, u32_neg_eq, u32_neg_neg, u32_le_neg, u32_neg_lt, u32_lt_neg, u32_neg_le, u10, u01, u3n0, u1n0, u4n0, n9_lt, n1_lt, n9_neg, n1_neg, if_true, if_false, if_pos, if_neg, ne_eq, not_true_eq_false, not_false_eq_true, ho_within_good hk, n1, h0]
    · unfold ff_mo_keep
      simp (disch := omega) only [u32_lit, sm_let_eq, sm_bind_some, sm_cI_some, sm_cV_some, sm_cL_some, sm_rd_u, sm_wr_u, u32_add, u32_mul, u32_sub, u32_le, u32_lt, u32_eq, u32_eq_neg, u32_neg_eq, u32_neg_neg, u32_le_neg, u32_neg_lt, u32_lt_neg, u32_neg_le, u10, u01, u3n0, u1n0, u4n0, n9_lt, n1_lt, n9_neg, n1_neg, if_true, if_false, if_pos, if_neg, ne_eq, not_true_eq_false, not_false_eq_true, hq, n2, h0]
  have hD := isDeeds_kept hk
  obtain ⟨w1, a1, a2, a3, a4⟩ := de_become (w := w) hD isDeeds_home (by omega) h4 h7
  obtain ⟨w2, b1, b2, b3⟩ := mo_copyHouse (w := w1) (a := 0) (b := 1272 * (1 + k)) (by omega) (by omega) (by omega)
  have n2' : w1.1 62 1 = u32 B.1 := by rw [a3 62 (by omega)]; exact n2
  have e1 : 1272 * (1 + k) = 1272 * (k + 1) := by omega
  have e : ∀ a, (a < 24 + 4 * k ∨ (24 + 4 * k + 3 < a ∧ a ≠ 63)) → w2.1 a = w.1 a := fun a ha => (b3.1 a (by omega)).trans (a3 a (by omega))
  have e63 : ∀ j, (j < 1272 * (1 + k) ∨ 1272 * (1 + k) + 1272 ≤ j) → w2.1 63 j = w.1 63 j := fun j hj => (b3.2.1 j hj).trans (by rw [a3 63 (by omega)])
  have ec : ∀ j, j < 1272 → w2.1 63 (1272 * (k + 1) + j) = w.1 63 (0 + j) := fun j hj => by rw [← e1, b2 j hj, a3 63 (by omega)]
  refine Both_mk (.int (u32 ds.length)) w1 w2 ?_ ?_ ⟨RC_fr (fun a ha => e a (by omega)) (b3.2.2.trans a4) hc, B, ds, ⟨h1, fun i hi => ?_, fun i hi => ?_, h4, h5, ⟨CH_fr (fun a c1 c2 => e a (by omega)) h6.1, ?_⟩, ⟨?_, CDl_fr ds (fun j _ => ?_) h7.2⟩, MKept_fr h1 h4 h5 (by rw [e 62 (by omega)]) (e 64 (by omega)) (e 65 (by omega)) (fun j hj => e63 _ (by omega)) h8, fun q hq => ?_⟩⟩
  · unfold ff_ho_keep
    simp (disch := omega) only [u32_lit, sm_let_eq, sm_bind_some, sm_cI_some, sm_cV_some, sm_cL_some, sm_rd_u, sm_wr_u, u32_add, u32_mul, u32_sub, u32_le, u32_lt, u32_eq, u32_eq_neg, u32_neg_eq, u32_neg_neg, u32_le_neg, u32_neg_lt, u32_lt_neg, u32_neg_le, u10, u01, u3n0, u1n0, u4n0, n9_lt, n1_lt, n9_neg, n1_neg, if_true, if_false, if_pos, if_neg, ne_eq, not_true_eq_false, not_false_eq_true, ho_within_good hk, n1, rr_kept hk, hD.rc, a1, hD.gI, a2.1]
  · have m3 : w2.1 63 0 = u32 ds.length := by rw [e63 0 (by omega)]; exact h8.1
    unfold ff_mo_keep
    simp (disch := omega) only [u32_lit, sm_let_eq, sm_bind_some, sm_cI_some, sm_cV_some, sm_cL_some, sm_rd_u, sm_wr_u, u32_add, u32_mul, u32_sub, u32_le, u32_lt, u32_eq, u32_eq_neg, u32_neg_eq, u32_neg_neg, u32_le_neg, u32_neg_lt, u32_lt_neg, u32_neg_le, u10, u01, u3n0, u1n0, u4n0, n9_lt, n1_lt, n9_neg, n1_neg, if_true, if_false, if_pos, if_neg, ne_eq, not_true_eq_false, not_false_eq_true, hq, n2', b1, m3]
  · rw [e 39 (by omega), e 40 (by omega)]; exact h2 i hi
  · rw [e 66 (by omega)]; exact h3 i hi
  · rw [e 36 (by omega)]; exact h6.2
  · rw [e 45 (by omega)]; exact h7.1
  · rw [e (45 + 1) (by omega), e (45 + 2) (by omega), e (45 + 3) (by omega)]; exact ⟨rfl, rfl, rfl⟩
  · by_cases hqk : q = k
    · subst hqk
      refine Or.inr ⟨ds, h4, h5, ⟨by rw [b3.1 _ (by omega)]; exact a2.1, CDl_fr ds (fun j hj => ?_) a2.2⟩, MKept_fr (w := w) (b := 0) h1 h4 h5 (by rw [e 62 (by omega)]) (e 64 (by omega)) (e 65 (by omega)) ec h8⟩
      rw [b3.1 (24 + 4 * q + 1) (by omega), b3.1 (24 + 4 * q + 2) (by omega), b3.1 (24 + 4 * q + 3) (by omega)]
      exact ⟨rfl, rfl, rfl⟩
    · rcases h9 q hq with ⟨c1, c2⟩ | ⟨l, c1, c2, c3, c4⟩
      · exact Or.inl ⟨by rw [e _ (by omega)]; exact c1, by rw [e63 _ (by omega)]; exact c2⟩
      · refine Or.inr ⟨l, c1, c2, ⟨by rw [e _ (by omega)]; exact c3.1, CDl_fr l (fun j hj => ?_) c3.2⟩, MKept_fr h1 c1 c2 (by rw [e 62 (by omega)]) (e 64 (by omega)) (e 65 (by omega)) (fun j hj => e63 _ (by omega)) c4⟩
        rw [e (24 + 4 * q + 1) (by omega), e (24 + 4 * q + 2) (by omega), e (24 + 4 * q + 3) (by omega)]
        exact ⟨rfl, rfl, rfl⟩
theorem op_on {k : Int32} {w : sm_Mem} (h : R w) : Both (ff_ho_on k) (ff_mo_on k) R w := by
  obtain ⟨hc, B, ds, hh⟩ := id h
  obtain ⟨hok, hn, n1, n2, n6⟩ := hh.n
  obtain ⟨h1, h2, h3, h4, h5, h6, h7, h8, h9⟩ := id hh
  rcases aCases k 3 with hk | ⟨k, hk, -, rfl⟩
  · have hq : ∀ w, ff_mo_in k.toInt64 0 2 w = some (.int (u32 0), w) := fun w => mo_in_bad hk rfl
    refine BothR_same h (-u32 1) ?_ ?_
    · unfold ff_ho_on
      simp (disch := omega) only [u32_lit, sm_let_eq, sm_bind_some, sm_cI_some, sm_cV_some, sm_cL_some, sm_rd_u, sm_wr_u, u32_add, u32_mul, u32_sub, u32_le, u32_lt, u32_eq, u32_eq_neg, u32_neg_eq, u32_neg_neg, u32_le_neg, u32_neg_lt, u32_lt_neg, u32_neg_le, u10, u01, u3n0, u1n0, u4n0, n9_lt, n1_lt, n9_neg, n1_neg, if_true, if_false, if_pos, if_neg, ne_eq, not_true_eq_false, not_false_eq_true, ho_within_bad hk]
    · unfold ff_mo_on
      simp (disch := omega) only [u32_lit, sm_let_eq, sm_bind_some, sm_cI_some, sm_cV_some, sm_cL_some, sm_rd_u, sm_wr_u, u32_add, u32_mul, u32_sub, u32_le, u32_lt, u32_eq, u32_eq_neg, u32_neg_eq, u32_neg_neg, u32_le_neg, u32_neg_lt, u32_lt_neg, u32_neg_le, u10, u01, u3n0, u1n0, u4n0, n9_lt, n1_lt, n9_neg, n1_neg, if_true, if_false, if_pos, if_neg, ne_eq, not_true_eq_false, not_false_eq_true, hq]
  have hq : ∀ w, ff_mo_in (u32 k).toInt64 0 2 w = some (.int (u32 1), w) := fun w => mo_in_good hk (by decide) rfl
  have hD := isDeeds_kept hk
  have e1 : 1272 * (1 + k) + 0 = 1272 * (k + 1) := by omega
  rcases h9 k hk with ⟨c1, c2⟩ | ⟨l, c1, c2, c3, c4⟩
  · refine BothR_ref h 1 ?_ ?_
    · unfold ff_ho_on ff_de_isMissing
      simp (disch := omega) only [u32_lit, sm_let_eq, sm_bind_some, sm_cI_some, sm_cV_some, sm_cL_some, sm_rd_u, sm_wr_u, u32_add, u32_mul, u32_sub, u32_le, u32_lt, u32_eq, u32_eq_neg, u32_neg_eq, u32_neg_neg, u32_le_neg, u32_neg_lt, u32_lt_neg, u32_neg_le, u10, u01, u3n0, u1n0, u4n0, n9_lt, n1_lt, n9_neg, n1_neg, if_true, if_false, if_pos, if_neg, ne_eq, not_true_eq_false, not_false_eq_true, ho_within_good hk, rr_kept hk, hD.rc, hD.gI, c1, td_refuse]
    · unfold ff_mo_on
      simp (disch := omega) only [u32_lit, sm_let_eq, sm_bind_some, sm_cI_some, sm_cV_some, sm_cL_some, sm_rd_u, sm_wr_u, u32_add, u32_mul, u32_sub, u32_le, u32_lt, u32_eq, u32_eq_neg, u32_neg_eq, u32_neg_neg, u32_le_neg, u32_neg_lt, u32_lt_neg, u32_neg_le, u10, u01, u3n0, u1n0, u4n0, n9_lt, n1_lt, n9_neg, n1_neg, if_true, if_false, if_pos, if_neg, ne_eq, not_true_eq_false, not_false_eq_true, hq, e1, wcRef_ne, c2, mo_find]
  · obtain ⟨w1, a1, a2, a3, a4⟩ := de_become (w := w) isDeeds_home hD (by omega) c1 c3
    obtain ⟨w2, b1, b2, b3, b4, b5⟩ := hs_goBackTo (n := l.length) (w := w1) h1 c1 c2 (Nat.le_refl _) (by rw [a3 36 (by omega)]; exact n1) (fun i hi => by rw [a3 37 (by omega), a3 38 (by omega)]; exact hh.base i hi) (fun i hi => by rw [a3 39 (by omega), a3 40 (by omega)]; exact h2 i hi) a2.2
    obtain ⟨w3, d1, d2, d3⟩ := mo_copyHouse (w := w2) (a := 1272 * (1 + k)) (b := 0) (by omega) (by omega) (by omega)
    rw [Nat.sub_self] at b2
    have b2 : CHX w2 (playV B l) := b2
    have e : ∀ a, (a < 36 ∨ (48 < a ∧ a ≠ 63) ∨ a = 37 ∨ a = 38 ∨ a = 39 ∨ a = 40) → w3.1 a = w.1 a := fun a ha => (d3.1 a (by omega)).trans ((b4 a (by omega)).trans (a3 a (by omega)))
    have e63 : ∀ j, 1272 ≤ j → w3.1 63 j = w.1 63 j := fun j hj => (d3.2.1 j (by omega)).trans (by rw [b4 63 (by omega), a3 63 (by omega)])
    have ec : ∀ j, j < 1272 → w3.1 63 (0 + j) = w.1 63 (1272 * (k + 1) + j) := fun j hj => by rw [d2 j hj, b4 63 (by omega), a3 63 (by omega), Nat.add_comm 1 k]
    refine Both_mk (.int (u32 l.length)) w2 w3 ?_ ?_ ⟨RC_fr (fun a ha => e a (by omega)) (d3.2.2.trans (b5.trans a4)) hc, B, l, ⟨h1, fun i hi => ?_, fun i hi => ?_, c1, c2, ⟨CH_fr (fun a f1 f2 => d3.1 a (by omega)) b2.1, ?_⟩, ⟨?_, CDl_fr l (fun j _ => ?_) a2.2⟩, MKept_fr (w := w) (b := 1272 * (k + 1)) h1 c1 c2 (by rw [e 62 (by omega)]) (e 64 (by omega)) (e 65 (by omega)) ec c4, fun q hq => ?_⟩⟩
    · unfold ff_ho_on ff_de_isMissing
      simp (disch := omega) only [u32_lit, sm_let_eq, sm_bind_some, sm_cI_some, sm_cV_some, sm_cL_some, sm_rd_u, sm_wr_u, u32_add, u32_mul, u32_sub, u32_le, u32_lt, u32_eq, u32_eq_neg, u32_neg_eq, u32_neg_neg, u32_le_neg, u32_neg_lt, u32_lt_neg, u32_neg_le, u10, u01, u3n0, u1n0, u4n0, n9_lt, n1_lt, n9_neg, n1_neg, if_true, if_false, if_pos, if_neg, ne_eq, not_true_eq_false, not_false_eq_true, ho_within_good hk, rr_kept hk, hD.rc, hD.gI, c3.1, Nat.zero_le, a1, a2.1, b1, b3]
    · have m3 : w3.1 63 0 = u32 l.length := by have := ec 0 (by decide); rw [Nat.zero_add] at this; rw [this]; exact c4.1
      have m4 : w2.1 63 (1272 * (k + 1)) = u32 l.length := by rw [b4 63 (by omega), a3 63 (by omega)]; exact c4.1
      unfold ff_mo_on
      simp (disch := omega) only [u32_lit, sm_let_eq, sm_bind_some, sm_cI_some, sm_cV_some, sm_cL_some, sm_rd_u, sm_wr_u, u32_add, u32_mul, u32_sub, u32_le, u32_lt, u32_eq, u32_eq_neg, u32_neg_eq, u32_neg_neg, u32_le_neg, u32_neg_lt, u32_lt_neg, u32_neg_le, u10, u01, u3n0, u1n0, u4n0, n9_lt, n1_lt, n9_neg, n1_neg, if_true, if_false, if_pos, if_neg, ne_eq, not_true_eq_false, not_false_eq_true, hq, e1, m4, Nat.zero_le, d1, m3]
    · rw [e 39 (by omega), e 40 (by omega)]; exact h2 i hi
    · rw [e 66 (by omega)]; exact h3 i hi
    · rw [d3.1 36 (by decide)]; exact b2.2
    · rw [d3.1 45 (by decide)]; exact b3
    · rw [d3.1 (45 + 1) (by decide), d3.1 (45 + 2) (by decide), d3.1 (45 + 3) (by decide), b4 (45 + 1) (by omega), b4 (45 + 2) (by omega), b4 (45 + 3) (by omega)]; exact ⟨rfl, rfl, rfl⟩
    · rcases h9 q hq with ⟨c1, c2⟩ | ⟨l, c1, c2, c3, c4⟩
      · exact Or.inl ⟨by rw [e _ (by omega)]; exact c1, by rw [e63 _ (by omega)]; exact c2⟩
      · refine Or.inr ⟨l, c1, c2, ⟨by rw [e _ (by omega)]; exact c3.1, CDl_fr l (fun j hj => ?_) c3.2⟩, MKept_fr h1 c1 c2 (by rw [e 62 (by omega)]) (e 64 (by omega)) (e 65 (by omega)) (fun j hj => e63 _ (by omega)) c4⟩
        rw [e (24 + 4 * q + 1) (by omega), e (24 + 4 * q + 2) (by omega), e (24 + 4 * q + 3) (by omega)]
        exact ⟨rfl, rfl, rfl⟩
