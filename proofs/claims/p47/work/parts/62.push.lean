/-! pure: a word said and taken back, deeds performed, by the class -/
def HFr (w w1 : sm_Mem) : Prop := (∀ a, (a < 36 ∨ 44 < a ∨ a = 37 ∨ a = 38 ∨ a = 39 ∨ a = 40) → w1.1 a = w.1 a) ∧ w1.2 = w.2 ∧ ∀ j, j ≠ 7 → j ≠ 8 → j ≠ 11 → w1.1 36 j = w.1 36 j
theorem HFr.refl {w : sm_Mem} : HFr w w := ⟨fun _ _ => rfl, rfl, fun _ _ _ _ => rfl⟩
theorem HFr.trans {w w1 w2 : sm_Mem} (h1 : HFr w w1) (h2 : HFr w1 w2) : HFr w w2 := ⟨fun a ha => (h2.1 a ha).trans (h1.1 a ha), h2.2.1.trans h1.2.1, fun j a b c => (h2.2.2 j a b c).trans (h1.2.2 j a b c)⟩
/-- only the order's cells, its length and the breath -/
def SFr (w w1 : sm_Mem) : Prop := HFr w w1 ∧ w1.1 41 = w.1 41 ∧ (∀ j, j ≠ 11 → w1.1 36 j = w.1 36 j)
theorem SFr.refl {w : sm_Mem} : SFr w w := ⟨HFr.refl, rfl, fun _ _ => rfl⟩
theorem SFr.trans {w w1 w2 : sm_Mem} (h1 : SFr w w1) (h2 : SFr w1 w2) : SFr w w2 := ⟨h1.1.trans h2.1, h2.2.1.trans h1.2.1, fun j a => (h2.2.2 j a).trans (h1.2.2 j a)⟩
theorem ordC_push {w w1 : sm_Mem} : ∀ (od : List (Nat × Nat)), (∀ j, j < od.length → w1.1 43 j = w.1 43 j ∧ w1.1 44 j = w.1 44 j) → ordC w od → ordC w1 od := ordC_fr
theorem hs_push {H : HV} {i x : Nat} {w : sm_Mem} (h : CH w H) (hok : HOk H) (hi : i < hN H) (h8 : (hO H).length < 8) (hb : 0 < hB H i) : ∃ w1, ff_hs_push (u32 i) (u32 x) w = some (.null, w1) ∧ CH w1 (pushV H i x) ∧ SFr w w1 := by
  obtain ⟨h1, h2, h3, h4, h5⟩ := h
  have h6 := hok.1
  refine ⟨sm_wI (sm_wI (sm_wI (sm_wI w 43 (hO H).length (u32 x)) 44 (hO H).length (u32 i)) 36 11 (u32 ((hO H).length + 1))) 42 i (u32 (hB H i - 1)), ?_, ?_, ?_⟩
  · unfold ff_hs_push
    simp (disch := omega) only [u32_lit, sm_let_eq, sm_bind_some, sm_cI_some, sm_cV_some, sm_cL_some, sm_rd_u, sm_wr_u, u32_add, u32_mul, u32_sub, u32_le, u32_lt, u32_eq, u32_eq_neg, u32_neg_eq, u32_neg_neg, u32_le_neg, u32_neg_lt, u32_lt_neg, u32_neg_le, u10, u01, u3n0, u1n0, u4n0, n9_lt, n1_lt, n9_neg, n1_neg, if_true, if_false, if_pos, if_neg, ne_eq, not_true_eq_false, not_false_eq_true, sm_wI_ne, sm_wI_nj, sm_wI_eq, sm_wA_ne, sm_wA_eq, h4, (h2 i hi).2.2.2]
  · refine ⟨?_, fun j hj => ?_, ?_, ?_, ?_, ?_, ?_⟩
    · simp (disch := omega) only [sm_wI_ne, sm_wI_nj, sm_wI_eq, sm_wA_ne, sm_wA_eq]
      exact h1
    · obtain ⟨a1, a2, a3, a4⟩ := h2 j hj
      simp (disch := omega) only [sm_wI_ne, sm_wI_nj, sm_wI_eq, sm_wA_ne, sm_wA_eq]
      refine ⟨a1, a2, a3, ?_⟩
      show _ = u32 (updN (hB H) i (hB H i - 1) j)
      unfold updN
      by_cases hji : j = i
      · rw [if_pos hji, hji, sm_wI_eq]
      · rw [if_neg hji, sm_wI_nj hji]
        simp (disch := omega) only [sm_wI_ne, sm_wI_nj, sm_wI_eq, sm_wA_ne, sm_wA_eq]
        exact a4
    · simp (disch := omega) only [sm_wI_ne, sm_wI_nj, sm_wI_eq, sm_wA_ne, sm_wA_eq]
      exact h3
    · simp (disch := omega) only [sm_wI_ne, sm_wI_nj, sm_wI_eq, sm_wA_ne, sm_wA_eq]
      rfl
    · simp (disch := omega) only [sm_wI_ne, sm_wI_nj, sm_wI_eq, sm_wA_ne, sm_wA_eq]
    · simp (disch := omega) only [sm_wI_ne, sm_wI_nj, sm_wI_eq, sm_wA_ne, sm_wA_eq]
    · refine ordC_fr _ (fun j hj => ?_) h5
      simp (disch := omega) only [sm_wI_ne, sm_wI_nj, sm_wI_eq, sm_wA_ne, sm_wA_eq, and_self]
  · refine ⟨⟨fun a ha => ?_, rfl, fun j a b c => ?_⟩, ?_, fun j hj => ?_⟩ <;> simp (disch := omega) only [sm_wI_ne, sm_wI_nj, sm_wI_eq, sm_wA_ne, sm_wA_eq]
theorem hs_pop {H : HV} {i x : Nat} {w : sm_Mem} (h : CH w (pushV H i x)) (hok : HOk H) (hi : i < hN H) (h8 : (hO H).length < 8) (hb : 0 < hB H i) : ∃ w1, ff_hs_pop w = some (.null, w1) ∧ CH w1 H ∧ SFr w w1 := by
  obtain ⟨h1, h2, h3, h4, h5⟩ := h
  have h6 := hok.1
  have h9 := (hok.2.1 i hi).2.2.2
  have h4 : w.1 36 11 = u32 ((hO H).length + 1) := h4
  have hbi : w.1 42 i = u32 (hB H i - 1) := by
    have := (h2 i hi).2.2.2
    rw [this]
    show u32 (updN (hB H) i (hB H i - 1) i) = _
    unfold updN
    rw [if_pos rfl]
  have ht : w.1 44 (hO H).length = u32 i := h5.2.1
  refine ⟨sm_wI (sm_wI w 36 11 (u32 (hO H).length)) 42 i (u32 (hB H i)), ?_, ?_, ?_⟩
  · unfold ff_hs_pop
    simp (disch := omega) only [u32_lit, sm_let_eq, sm_bind_some, sm_cI_some, sm_cV_some, sm_cL_some, sm_rd_u, sm_wr_u, u32_add, u32_mul, u32_sub, u32_le, u32_lt, u32_eq, u32_eq_neg, u32_neg_eq, u32_neg_neg, u32_le_neg, u32_neg_lt, u32_lt_neg, u32_neg_le, u10, u01, u3n0, u1n0, u4n0, n9_lt, n1_lt, n9_neg, n1_neg, if_true, if_false, if_pos, if_neg, ne_eq, not_true_eq_false, not_false_eq_true, sm_wI_ne, sm_wI_nj, sm_wI_eq, sm_wA_ne, sm_wA_eq, h4, Nat.add_sub_cancel, ht, hbi, Nat.sub_add_cancel, Nat.succ_le_of_lt hb]
  · refine ⟨?_, fun j hj => ?_, ?_, ?_, ?_⟩
    · simp (disch := omega) only [sm_wI_ne, sm_wI_nj, sm_wI_eq, sm_wA_ne, sm_wA_eq]
      exact h1
    · obtain ⟨a1, a2, a3, a4⟩ := h2 j hj
      simp (disch := omega) only [sm_wI_ne, sm_wI_nj, sm_wI_eq, sm_wA_ne, sm_wA_eq]
      refine ⟨a1, a2, a3, ?_⟩
      by_cases hji : j = i
      · rw [hji, sm_wI_eq]
      · rw [sm_wI_nj hji]
        simp (disch := omega) only [sm_wI_ne, sm_wI_nj, sm_wI_eq, sm_wA_ne, sm_wA_eq]
        have a4 : w.1 42 j = u32 (updN (hB H) i (hB H i - 1) j) := a4
        unfold updN at a4
        rw [if_neg hji] at a4
        exact a4
    · simp (disch := omega) only [sm_wI_ne, sm_wI_nj, sm_wI_eq, sm_wA_ne, sm_wA_eq]
      exact h3
    · simp (disch := omega) only [sm_wI_ne, sm_wI_nj, sm_wI_eq, sm_wA_ne, sm_wA_eq]
    · refine ordC_fr _ (fun j hj => ?_) h5.2.2
      simp (disch := omega) only [sm_wI_ne, sm_wI_nj, sm_wI_eq, sm_wA_ne, sm_wA_eq, and_self]
  · refine ⟨⟨fun a ha => ?_, rfl, fun j a b c => ?_⟩, ?_, fun j hj => ?_⟩ <;> simp (disch := omega) only [sm_wI_ne, sm_wI_nj, sm_wI_eq, sm_wA_ne, sm_wA_eq]
theorem hs_perform_loop {B : HBase} {n : Nat} (hn6 : n ≤ 6) : ∀ (m i F : Nat) (w : sm_Mem), i + m = n → m < F → w.1 36 0 = u32 n → (∀ i, i < n → w.1 40 i = u32 (B.2.2.2.2 i)) → ∃ f : Nat → Int32, ff_hs_perform_68_f F (u32 i) w = some (.null, sm_wA w 42 f) ∧ (∀ j, i ≤ j → j < n → f j = u32 (B.2.2.2.2 j)) ∧ ∀ j, j < i → f j = w.1 42 j := by
  intro m
  induction m with
  | zero =>
    intro i F w hm hF hn hb
    obtain ⟨F, rfl⟩ : ∃ G, F = G + 1 := ⟨F - 1, by omega⟩
    refine ⟨w.1 42, ?_, fun j h1 h2 => absurd h1 (by omega), fun _ _ => rfl⟩
    rw [ff_hs_perform_68_f, sm_wA_self]
    unfold ff_hs_perform_68_b
    simp (disch := omega) only [u32_lit, sm_let_eq, sm_bind_some, sm_cI_some, sm_cV_some, sm_cL_some, sm_rd_u, sm_wr_u, u32_add, u32_mul, u32_sub, u32_le, u32_lt, u32_eq, u32_eq_neg, u32_neg_eq, u32_neg_neg, u32_le_neg, u32_neg_lt, u32_lt_neg, u32_neg_le, u10, u01, u3n0, u1n0, u4n0, n9_lt, n1_lt, n9_neg, n1_neg, if_true, if_false, if_pos, if_neg, ne_eq, not_true_eq_false, not_false_eq_true, hn]
  | succ m ih =>
    intro i F w hm hF hn hb
    obtain ⟨F, rfl⟩ : ∃ G, F = G + 1 := ⟨F - 1, by omega⟩
    obtain ⟨f, h1, h2, h3⟩ := ih (i + 1) F (sm_wI w 42 i (u32 (B.2.2.2.2 i))) (by omega) (by omega) (by simp (disch := omega) only [sm_wI_ne, sm_wI_nj, sm_wI_eq, sm_wA_ne, sm_wA_eq]; exact hn) (fun j hj => by simp (disch := omega) only [sm_wI_ne, sm_wI_nj, sm_wI_eq, sm_wA_ne, sm_wA_eq]; exact hb j hj)
    refine ⟨f, ?_, fun j a b => ?_, fun j a => ?_⟩
    · rw [ff_hs_perform_68_f]
      unfold ff_hs_perform_68_b
      simp (disch := omega) only [u32_lit, sm_let_eq, sm_bind_some, sm_cI_some, sm_cV_some, sm_cL_some, sm_rd_u, sm_wr_u, u32_add, u32_mul, u32_sub, u32_le, u32_lt, u32_eq, u32_eq_neg, u32_neg_eq, u32_neg_neg, u32_le_neg, u32_neg_lt, u32_lt_neg, u32_neg_le, u10, u01, u3n0, u1n0, u4n0, n9_lt, n1_lt, n9_neg, n1_neg, if_true, if_false, if_pos, if_neg, ne_eq, not_true_eq_false, not_false_eq_true, hn, hb i (by omega)]
      rw [h1, sm_wI_wA, sm_wA_wA]
    · by_cases hji : j = i
      · rw [hji, h3 i (by omega), sm_wI_eq]
      · exact h2 j (by omega) b
    · rw [h3 j (by omega), sm_wI_nj (by omega)]
theorem hs_perform {B : HBase} {X : HX} {d : Deed} {w : sm_Mem} (h : CHX w X) (hok : HOk X.1) (hn : hN X.1 = B.1) (hb : CB w B) (hd : okD X d) (hh : hH X.1 < 999) (he : X.2 < 999) : ∃ w1, ff_hs_perform (u32 d.1) (u32 d.2.1) (u32 d.2.2) w = some (.null, w1) ∧ CHX w1 (perfV B X d) ∧ HFr w w1 := by
  have h6 := hok.1
  obtain ⟨⟨h1, h2, h3, h4, h5⟩, hE⟩ := h
  unfold ff_hs_perform
  have e0 : ∀ k, sm_sw (u32 k) 0 = sm_sw (u32 k) ((0 : Nat) : Int) := fun _ => rfl
  rcases hd with ⟨e, g1, g2, g3⟩ | ⟨e, -⟩ | ⟨e, -⟩ | ⟨e, g1, g2⟩
  · obtain ⟨c1, c2⟩ := canV_free g3
    obtain ⟨w1, a1, a2, a3⟩ := hs_push (x := d.2.2) ⟨h1, h2, h3, h4, h5⟩ hok g1 c1 c2
    refine ⟨w1, ?_, ⟨?_, ?_⟩, a3.1⟩
    · rw [e, e0, sm_sw_u (by decide), if_neg (by decide)]
      show sm_cV (ff_hs_push (u32 d.2.1) (u32 d.2.2) w) _ = _
      rw [a1]
      rfl
    · unfold perfV
      rw [e]
      exact a2
    · unfold perfV
      rw [e]
      show w1.1 36 8 = u32 X.2
      rw [a3.2.2 8 (by decide)]
      exact hE
  · refine ⟨sm_wI (sm_wI w 36 11 (u32 0)) 36 8 (u32 (X.2 + 1)), ?_, ?_, ?_⟩
    · rw [e, e0, sm_sw_u (by decide), if_neg (by decide)]
      show sm_let _ _ = _
      simp (disch := omega) only [u32_lit, sm_let_eq, sm_bind_some, sm_cI_some, sm_cV_some, sm_cL_some, sm_rd_u, sm_wr_u, u32_add, u32_mul, u32_sub, u32_le, u32_lt, u32_eq, u32_eq_neg, u32_neg_eq, u32_neg_neg, u32_le_neg, u32_neg_lt, u32_lt_neg, u32_neg_le, u10, u01, u3n0, u1n0, u4n0, n9_lt, n1_lt, n9_neg, n1_neg, if_true, if_false, if_pos, if_neg, ne_eq, not_true_eq_false, not_false_eq_true, sm_wI_ne, sm_wI_nj, sm_wI_eq, sm_wA_ne, sm_wA_eq, hE]
      rfl
    · unfold perfV
      rw [e]
      refine ⟨⟨?_, fun j hj => ?_, ?_, ?_, trivial⟩, ?_⟩
      · simp (disch := omega) only [sm_wI_ne, sm_wI_nj, sm_wI_eq, sm_wA_ne, sm_wA_eq]
        exact h1
      · simp (disch := omega) only [sm_wI_ne, sm_wI_nj, sm_wI_eq, sm_wA_ne, sm_wA_eq]
        exact h2 j hj
      · simp (disch := omega) only [sm_wI_ne, sm_wI_nj, sm_wI_eq, sm_wA_ne, sm_wA_eq]
        exact h3
      · simp (disch := omega) only [sm_wI_ne, sm_wI_nj, sm_wI_eq, sm_wA_ne, sm_wA_eq]
        rfl
      · simp (disch := omega) only [sm_wI_ne, sm_wI_nj, sm_wI_eq, sm_wA_ne, sm_wA_eq]
    · refine ⟨fun a ha => ?_, rfl, fun j a b c => ?_⟩ <;> simp (disch := omega) only [sm_wI_ne, sm_wI_nj, sm_wI_eq, sm_wA_ne, sm_wA_eq]
  · obtain ⟨f, a1, a2, a3⟩ := hs_perform_loop (B := B) h6 (hN X.1) 0 1000000 (sm_wI w 36 7 (u32 (hH X.1 + 1))) (by omega) (by omega) (by simp (disch := omega) only [sm_wI_ne, sm_wI_nj, sm_wI_eq, sm_wA_ne, sm_wA_eq]; exact h1) (fun i hi => by simp (disch := omega) only [sm_wI_ne, sm_wI_nj, sm_wI_eq, sm_wA_ne, sm_wA_eq]; exact (hb i (by omega)).2)
    refine ⟨sm_wA (sm_wI w 36 7 (u32 (hH X.1 + 1))) 42 f, ?_, ?_, ?_⟩
    · rw [e, e0, sm_sw_u (by decide), if_neg (by decide)]
      show sm_let _ _ = _
      unfold ff_hs_perform_68
      simp (disch := omega) only [u32_lit, sm_let_eq, sm_bind_some, sm_cI_some, sm_cV_some, sm_cL_some, sm_rd_u, sm_wr_u, u32_add, u32_mul, u32_sub, u32_le, u32_lt, u32_eq, u32_eq_neg, u32_neg_eq, u32_neg_neg, u32_le_neg, u32_neg_lt, u32_lt_neg, u32_neg_le, u10, u01, u3n0, u1n0, u4n0, n9_lt, n1_lt, n9_neg, n1_neg, if_true, if_false, if_pos, if_neg, ne_eq, not_true_eq_false, not_false_eq_true, h3, sm_N_eq]
      exact a1
    · unfold perfV
      rw [e]
      refine ⟨⟨?_, fun j hj => ?_, ?_, ?_, ?_⟩, ?_⟩
      · simp (disch := omega) only [sm_wI_ne, sm_wI_nj, sm_wI_eq, sm_wA_ne, sm_wA_eq]
        exact h1
      · simp (disch := omega) only [sm_wI_ne, sm_wI_nj, sm_wI_eq, sm_wA_ne, sm_wA_eq]
        obtain ⟨b1, b2, b3, b4⟩ := h2 j hj
        exact ⟨b1, b2, b3, a2 j (by omega) hj⟩
      · simp (disch := omega) only [sm_wI_ne, sm_wI_nj, sm_wI_eq, sm_wA_ne, sm_wA_eq]
        rfl
      · simp (disch := omega) only [sm_wI_ne, sm_wI_nj, sm_wI_eq, sm_wA_ne, sm_wA_eq]
        exact h4
      · refine ordC_fr _ (fun j _ => ?_) h5
        simp (disch := omega) only [sm_wI_ne, sm_wI_nj, sm_wI_eq, sm_wA_ne, sm_wA_eq, and_self]
      · simp (disch := omega) only [sm_wI_ne, sm_wI_nj, sm_wI_eq, sm_wA_ne, sm_wA_eq]
        exact hE
    · refine ⟨fun a ha => ?_, rfl, fun j a b c => ?_⟩ <;> simp (disch := omega) only [sm_wI_ne, sm_wI_nj, sm_wI_eq, sm_wA_ne, sm_wA_eq]
  · refine ⟨sm_wI w 41 d.2.1 (u32 d.2.2), ?_, ?_, ?_⟩
    · rw [e, e0, sm_sw_u (by decide), if_neg (by decide)]
      show Option.bind _ _ = _
      simp (disch := omega) only [u32_lit, sm_let_eq, sm_bind_some, sm_cI_some, sm_cV_some, sm_cL_some, sm_rd_u, sm_wr_u, u32_add, u32_mul, u32_sub, u32_le, u32_lt, u32_eq, u32_eq_neg, u32_neg_eq, u32_neg_neg, u32_le_neg, u32_neg_lt, u32_lt_neg, u32_neg_le, u10, u01, u3n0, u1n0, u4n0, n9_lt, n1_lt, n9_neg, n1_neg, if_true, if_false, if_pos, if_neg, ne_eq, not_true_eq_false, not_false_eq_true]
    · unfold perfV
      rw [e]
      refine ⟨⟨?_, fun j hj => ?_, ?_, ?_, ?_⟩, ?_⟩
      · simp (disch := omega) only [sm_wI_ne, sm_wI_nj, sm_wI_eq, sm_wA_ne, sm_wA_eq]
        exact h1
      · obtain ⟨b1, b2, b3, b4⟩ := h2 j hj
        refine ⟨by simp (disch := omega) only [sm_wI_ne, sm_wI_nj, sm_wI_eq, sm_wA_ne, sm_wA_eq]; exact b1, by simp (disch := omega) only [sm_wI_ne, sm_wI_nj, sm_wI_eq, sm_wA_ne, sm_wA_eq]; exact b2, ?_, by simp (disch := omega) only [sm_wI_ne, sm_wI_nj, sm_wI_eq, sm_wA_ne, sm_wA_eq]; exact b4⟩
        show _ = u32 (updN (hR X.1) d.2.1 d.2.2 j)
        unfold updN
        by_cases hji : j = d.2.1
        · rw [if_pos hji, hji, sm_wI_eq]
        · rw [if_neg hji, sm_wI_nj hji]
          exact b3
      · simp (disch := omega) only [sm_wI_ne, sm_wI_nj, sm_wI_eq, sm_wA_ne, sm_wA_eq]
        exact h3
      · simp (disch := omega) only [sm_wI_ne, sm_wI_nj, sm_wI_eq, sm_wA_ne, sm_wA_eq]
        exact h4
      · refine ordC_fr _ (fun j _ => ?_) h5
        simp (disch := omega) only [sm_wI_ne, sm_wI_nj, sm_wI_eq, sm_wA_ne, sm_wA_eq, and_self]
      · simp (disch := omega) only [sm_wI_ne, sm_wI_nj, sm_wI_eq, sm_wA_ne, sm_wA_eq]
        exact hE
    · refine ⟨fun a ha => ?_, rfl, fun j a b c => ?_⟩ <;> simp (disch := omega) only [sm_wI_ne, sm_wI_nj, sm_wI_eq, sm_wA_ne, sm_wA_eq]
/-! all deeds anew -/
theorem CDl_drop {w : sm_Mem} {c : Nat} : ∀ (k : Nat) (ds : List Deed), CDl w c ds → CDl w c (ds.drop k)
  | 0, ds, h => h
  | k + 1, [], h => trivial
  | k + 1, d :: r, h => CDl_drop k r h.2.2.2
/-- the deed of number j -/
theorem CDl_at {w : sm_Mem} {c : Nat} : ∀ (ds : List Deed) (j : Nat), j < ds.length → CDl w c ds → ∃ d : Deed, ds.drop (ds.length - (j + 1)) = d :: ds.drop (ds.length - j) ∧ w.1 (c + 1) j = u32 d.1 ∧ w.1 (c + 2) j = u32 d.2.1 ∧ w.1 (c + 3) j = u32 d.2.2
  | [], j, hj, _ => absurd hj (Nat.not_lt_zero _)
  | d :: r, j, hj, h => by
    rw [List.length_cons] at hj
    by_cases hjr : j = r.length
    · subst hjr
      refine ⟨d, ?_, h.1, h.2.1, h.2.2.1⟩
      rw [List.length_cons, Nat.sub_self, show r.length + 1 - r.length = 1 by omega]
      rfl
    · obtain ⟨e, h1, h2⟩ := CDl_at r j (by omega) h.2.2.2
      refine ⟨e, ?_, h2⟩
      rw [List.length_cons, show r.length + 1 - (j + 1) = (r.length - (j + 1)) + 1 by omega, show r.length + 1 - j = (r.length - j) + 1 by omega]
      exact h1
theorem hs_replay {B : HBase} {ds : List Deed} (hB : BOk B) (hl : ds.length ≤ 40) (hv : validV B ds) {n : Nat} (hn : n ≤ ds.length) : ∀ (m j F : Nat) (w : sm_Mem), j + m = n → m < F → CB w B → CDl w 45 ds → CHX w (playV B (ds.drop (ds.length - j))) → ∃ w1, ff_hs_goBackTo_65_f F (u32 n) (u32 j) w = some (.null, w1) ∧ CHX w1 (playV B (ds.drop (ds.length - n))) ∧ HFr w w1 := by
  intro m
  induction m with
  | zero =>
    intro j F w hm hF hb hd hx
    obtain ⟨F, rfl⟩ : ∃ G, F = G + 1 := ⟨F - 1, by omega⟩
    refine ⟨w, ?_, by rw [show n = j by omega]; exact hx, HFr.refl⟩
    rw [ff_hs_goBackTo_65_f]
    unfold ff_hs_goBackTo_65_b
    simp (disch := omega) only [u32_lit, sm_let_eq, sm_bind_some, sm_cI_some, sm_cV_some, sm_cL_some, sm_rd_u, sm_wr_u, u32_add, u32_mul, u32_sub, u32_le, u32_lt, u32_eq, u32_eq_neg, u32_neg_eq, u32_neg_neg, u32_le_neg, u32_neg_lt, u32_lt_neg, u32_neg_le, u10, u01, u3n0, u1n0, u4n0, n9_lt, n1_lt, n9_neg, n1_neg, if_true, if_false, if_pos, if_neg, ne_eq, not_true_eq_false, not_false_eq_true]
  | succ m ih =>
    intro j F w hm hF hb hd hx
    obtain ⟨F, rfl⟩ : ∃ G, F = G + 1 := ⟨F - 1, by omega⟩
    obtain ⟨d, a1, a2, a3, a4⟩ := CDl_at ds j (by omega) hd
    have hv1 := validV_drop (ds.length - (j + 1)) ds hv
    rw [a1] at hv1
    have hln : (ds.drop (ds.length - j)).length ≤ 40 := by rw [List.length_drop]; omega
    have hsm := playV_small (B := B) (ds.drop (ds.length - j))
    obtain ⟨k1, k2⟩ := playV_ok hB _ hln hv1.2
    obtain ⟨w1, b1, b2, b3⟩ := hs_perform hx k1 k2 hb hv1.1 (by omega) (by omega)
    have e2 : playV B (ds.drop (ds.length - (j + 1))) = perfV B (playV B (ds.drop (ds.length - j))) d := by rw [a1]; rfl
    rw [← e2] at b2
    obtain ⟨w2, c1, c2, c3⟩ := ih (j + 1) F w1 (by omega) (by omega) (fun i hi => by rw [b3.1 39 (by omega), b3.1 40 (by omega)]; exact hb i hi) (CDl_fr ds (fun q _ => by rw [b3.1 (45 + 1) (by omega), b3.1 (45 + 2) (by omega), b3.1 (45 + 3) (by omega)]; exact ⟨rfl, rfl, rfl⟩) hd) b2
    refine ⟨w2, ?_, c2, b3.trans c3⟩
    rw [ff_hs_goBackTo_65_f]
    unfold ff_hs_goBackTo_65_b
    simp (disch := omega) only [u32_lit, sm_let_eq, sm_bind_some, sm_cI_some, sm_cV_some, sm_cL_some, sm_rd_u, sm_wr_u, u32_add, u32_mul, u32_sub, u32_le, u32_lt, u32_eq, u32_eq_neg, u32_neg_eq, u32_neg_neg, u32_le_neg, u32_neg_lt, u32_lt_neg, u32_neg_le, u10, u01, u3n0, u1n0, u4n0, n9_lt, n1_lt, n9_neg, n1_neg, if_true, if_false, if_pos, if_neg, ne_eq, not_true_eq_false, not_false_eq_true]
    rw [a2, a3, a4, b1]
    simp (disch := omega) only [u32_lit, sm_let_eq, sm_bind_some, sm_cI_some, sm_cV_some, sm_cL_some, sm_rd_u, sm_wr_u, u32_add, u32_mul, u32_sub, u32_le, u32_lt, u32_eq, u32_eq_neg, u32_neg_eq, u32_neg_neg, u32_le_neg, u32_neg_lt, u32_lt_neg, u32_neg_le, u10, u01, u3n0, u1n0, u4n0, n9_lt, n1_lt, n9_neg, n1_neg, if_true, if_false, if_pos, if_neg, ne_eq, not_true_eq_false, not_false_eq_true]
    exact c1
theorem hs_start_loop {n d : Nat} {f g : Nat → Nat} (hn6 : n ≤ 6) : ∀ (m i F : Nat) (w : sm_Mem), i + m = n → m < F → w.1 36 0 = u32 n → (∀ i, i < n → w.1 39 i = u32 (f i) ∧ w.1 40 i = u32 (g i)) → (∀ j, j < i → w.1 41 j = u32 (f j) ∧ w.1 42 j = u32 (g j)) → ∃ w1, ff_hs_goBackTo_17_f F (u32 d) (u32 i) w = ff_hs_goBackTo_65 (u32 d) (u32 0) (sm_wI w1 45 3 (u32 d)) ∧ (∀ j, j < n → w1.1 41 j = u32 (f j) ∧ w1.1 42 j = u32 (g j)) ∧ (∀ a, a ≠ 41 → a ≠ 42 → w1.1 a = w.1 a) ∧ w1.2 = w.2 := by
  intro m
  induction m with
  | zero =>
    intro i F w hm hF hn hb hj
    obtain ⟨F, rfl⟩ : ∃ G, F = G + 1 := ⟨F - 1, by omega⟩
    refine ⟨w, ?_, fun j h => hj j (by omega), fun _ _ _ => rfl, rfl⟩
    rw [ff_hs_goBackTo_17_f]
    unfold ff_hs_goBackTo_17_b
    simp (disch := omega) only [u32_lit, sm_let_eq, sm_bind_some, sm_cI_some, sm_cV_some, sm_cL_some, sm_rd_u, sm_wr_u, u32_add, u32_mul, u32_sub, u32_le, u32_lt, u32_eq, u32_eq_neg, u32_neg_eq, u32_neg_neg, u32_le_neg, u32_neg_lt, u32_lt_neg, u32_neg_le, u10, u01, u3n0, u1n0, u4n0, n9_lt, n1_lt, n9_neg, n1_neg, if_true, if_false, if_pos, if_neg, ne_eq, not_true_eq_false, not_false_eq_true, hn]
  | succ m ih =>
    intro i F w hm hF hn hb hj
    obtain ⟨F, rfl⟩ : ∃ G, F = G + 1 := ⟨F - 1, by omega⟩
    obtain ⟨w1, a1, a2, a3, a4⟩ := ih (i + 1) F (sm_wI (sm_wI w 41 i (u32 (f i))) 42 i (u32 (g i))) (by omega) (by omega) (by simp (disch := omega) only [sm_wI_ne, sm_wI_nj, sm_wI_eq, sm_wA_ne, sm_wA_eq]; exact hn) (fun j hj => by simp (disch := omega) only [sm_wI_ne, sm_wI_nj, sm_wI_eq, sm_wA_ne, sm_wA_eq]; exact hb j hj) (fun j hji => by
      by_cases e : j = i
      · subst e
        simp (disch := omega) only [sm_wI_ne, sm_wI_nj, sm_wI_eq, sm_wA_ne, sm_wA_eq, and_self]
      · simp (disch := omega) only [sm_wI_ne, sm_wI_nj, sm_wI_eq, sm_wA_ne, sm_wA_eq]
        exact hj j (by omega))
    refine ⟨w1, ?_, a2, fun a h1 h2 => by rw [a3 a h1 h2, sm_wI_ne h2, sm_wI_ne h1], a4⟩
    rw [ff_hs_goBackTo_17_f]
    unfold ff_hs_goBackTo_17_b
    simp (disch := omega) only [u32_lit, sm_let_eq, sm_bind_some, sm_cI_some, sm_cV_some, sm_cL_some, sm_rd_u, sm_wr_u, u32_add, u32_mul, u32_sub, u32_le, u32_lt, u32_eq, u32_eq_neg, u32_neg_eq, u32_neg_neg, u32_le_neg, u32_neg_lt, u32_lt_neg, u32_neg_le, u10, u01, u3n0, u1n0, u4n0, n9_lt, n1_lt, n9_neg, n1_neg, if_true, if_false, if_pos, if_neg, ne_eq, not_true_eq_false, not_false_eq_true, sm_wI_ne, sm_wI_nj, sm_wI_eq, sm_wA_ne, sm_wA_eq, hn, (hb i (by omega)).1, (hb i (by omega)).2]
    exact a1
/-- goBackTo: the first n deeds anew -/
theorem hs_goBackTo {B : HBase} {ds : List Deed} {n : Nat} {w : sm_Mem} (hB : BOk B) (hl : ds.length ≤ 40) (hv : validV B ds) (hn : n ≤ ds.length) (h0 : w.1 36 0 = u32 B.1) (hk : ∀ i, i < B.1 → w.1 37 i = u32 (B.2.1 i) ∧ w.1 38 i = u32 (B.2.2.1 i)) (hb : CB w B) (hd : CDl w 45 ds) : ∃ w1, ff_hs_goBackTo (u32 n) w = some (.null, w1) ∧ CHX w1 (playV B (ds.drop (ds.length - n))) ∧ w1.1 45 3 = u32 n ∧ (∀ a, (a < 36 ∨ 45 < a ∨ a = 37 ∨ a = 38 ∨ a = 39 ∨ a = 40) → w1.1 a = w.1 a) ∧ w1.2 = w.2 := by
  have h6 := hB.1
  obtain ⟨w1, a1, a2, a3, a4⟩ := hs_start_loop (n := B.1) (d := n) (f := B.2.2.2.1) (g := B.2.2.2.2) h6 B.1 0 1000000 (sm_wI (sm_wI (sm_wI w 36 7 (u32 0)) 36 8 (u32 0)) 36 11 (u32 0)) (by omega) (by omega) (by simp (disch := omega) only [sm_wI_ne, sm_wI_nj, sm_wI_eq, sm_wA_ne, sm_wA_eq]; exact h0) (fun i hi => by simp (disch := omega) only [sm_wI_ne, sm_wI_nj, sm_wI_eq, sm_wA_ne, sm_wA_eq]; exact hb i hi) (fun j hj => absurd hj (Nat.not_lt_zero _))
  have hx : CHX (sm_wI w1 45 3 (u32 n)) (playV B (ds.drop (ds.length - 0))) := by
    rw [Nat.sub_zero, List.drop_length]
    refine ⟨⟨?_, fun i hi => ?_, ?_, ?_, trivial⟩, ?_⟩
    · simp (disch := omega) only [sm_wI_ne, sm_wI_nj, sm_wI_eq, sm_wA_ne, sm_wA_eq, a3]
      exact h0
    · simp (disch := omega) only [sm_wI_ne, sm_wI_nj, sm_wI_eq, sm_wA_ne, sm_wA_eq, a3]
      exact ⟨(hk i hi).1, (hk i hi).2, a2 i hi⟩
    · simp (disch := omega) only [sm_wI_ne, sm_wI_nj, sm_wI_eq, sm_wA_ne, sm_wA_eq, a3]
      rfl
    · simp (disch := omega) only [sm_wI_ne, sm_wI_nj, sm_wI_eq, sm_wA_ne, sm_wA_eq, a3]
      rfl
    · simp (disch := omega) only [sm_wI_ne, sm_wI_nj, sm_wI_eq, sm_wA_ne, sm_wA_eq, a3]
      rfl
  obtain ⟨w2, b1, b2, b3⟩ := hs_replay hB hl hv hn n 0 1000000 (sm_wI w1 45 3 (u32 n)) (by omega) (by omega) (fun i hi => by simp (disch := omega) only [sm_wI_ne, sm_wI_nj, sm_wI_eq, sm_wA_ne, sm_wA_eq, a3]; exact hb i hi) (CDl_fr ds (fun j _ => by simp (disch := omega) only [sm_wI_ne, sm_wI_nj, sm_wI_eq, sm_wA_ne, sm_wA_eq, a3, and_self]) hd) hx
  refine ⟨w2, ?_, b2, ?_, fun a ha => ?_, ?_⟩
  · unfold ff_hs_goBackTo ff_hs_goBackTo_17
    simp only [u32_lit, sm_let_eq]
    rw [sm_N_eq, a1]
    unfold ff_hs_goBackTo_65
    rw [sm_N_eq]
    exact b1
  · rw [b3.1 45 (by omega), sm_wI_eq]
  · rw [b3.1 a (by omega)]
    simp (disch := omega) only [sm_wI_ne, sm_wI_nj, sm_wI_eq, sm_wA_ne, sm_wA_eq, a3]
  · rw [b3.2.1, sm_wI_2, a4]
    rfl

