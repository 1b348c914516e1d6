/-! pure: words said and what can be undone, by the reference -/
/-- only cell 63, and there only places at which p fails -/
def QFr (p : Nat → Prop) (w w1 : sm_Mem) : Prop := (∀ a, a ≠ 63 → w1.1 a = w.1 a) ∧ (∀ j, p j → w1.1 63 j = w.1 63 j) ∧ w1.2 = w.2
theorem QFr.refl {p : Nat → Prop} {w : sm_Mem} : QFr p w w := ⟨fun _ _ => rfl, fun _ _ => rfl, rfl⟩
theorem QFr.trans {p : Nat → Prop} {w w1 w2 : sm_Mem} (h1 : QFr p w w1) (h2 : QFr p w1 w2) : QFr p w w2 := ⟨fun a ha => (h2.1 a ha).trans (h1.1 a ha), fun j hj => (h2.2.1 j hj).trans (h1.2.1 j hj), h2.2.2.trans h1.2.2⟩
theorem QFr.imp {p q : Nat → Prop} {w w1 : sm_Mem} (h : QFr p w w1) (hpq : ∀ j, q j → p j) : QFr q w w1 := ⟨h.1, fun j hj => h.2.1 j (hpq j hj), h.2.2⟩
theorem QFr.wI {p : Nat → Prop} {w : sm_Mem} {j : Nat} {x : Int32} (h : ¬ p j) : QFr p w (sm_wI w 63 j x) := ⟨fun a ha => sm_wI_ne ha, fun i hi => sm_wI_nj (fun e => h (e ▸ hi)), rfl⟩
theorem mo_says {H : HV} {b i x : Nat} {w : sm_Mem} (h : MH w b H) (hok : HOk H) (hb : b ≤ 5152) (hi : i < hN H) (h8 : (hO H).length < 8) (h0 : 0 < hB H i) : ∃ w1, ff_mo_says (u32 b) (u32 i) (u32 x) w = some (.null, w1) ∧ MH w1 b (pushV H i x) ∧ QFr (fun j => j < b + 2 ∨ j = b + 3 ∨ b + 32 ≤ j) w w1 := by
  obtain ⟨h1, h2, h3, h4, h5⟩ := h
  have h6 := hok.1
  refine ⟨sm_wI (sm_wI (sm_wI (sm_wI w 63 (b + 4 + (hO H).length) (u32 x)) 63 (b + 12 + (hO H).length) (u32 i)) 63 (b + 2) (u32 ((hO H).length + 1))) 63 (b + 26 + i) (u32 (hB H i - 1)), ?_, ?_, ?_⟩
  · unfold ff_mo_says
    simp (disch := omega) only [u32_lit, sm_let_eq, sm_bind_some, sm_cI_some, sm_cV_some, sm_cL_some, sm_rd_u, sm_wr_u, u32_add, u32_mul, u32_sub, u32_le, u32_lt, u32_eq, u32_eq_neg, u32_neg_eq, u32_neg_neg, u32_le_neg, u32_neg_lt, u32_lt_neg, u32_neg_le, u10, u01, u3n0, u1n0, u4n0, n9_lt, n1_lt, n9_neg, n1_neg, if_true, if_false, if_pos, if_neg, ne_eq, not_true_eq_false, not_false_eq_true, sm_wI_ne, sm_wI_nj, sm_wI_eq, sm_wA_ne, sm_wA_eq, h4, (h2 i hi).2.2.2]
  · refine ⟨?_, fun j hj => ?_, ?_, ?_, ?_, ?_, ?_⟩
    · simp (disch := omega) only [sm_wI_ne, sm_wI_nj, sm_wI_eq, sm_wA_ne, sm_wA_eq]
      exact h1
    · obtain ⟨a1, a2, a3, a4⟩ := h2 j hj
      have hj : j < hN H := hj
      refine ⟨by simp (disch := omega) only [sm_wI_ne, sm_wI_nj, sm_wI_eq, sm_wA_ne, sm_wA_eq]; exact a1, by simp (disch := omega) only [sm_wI_ne, sm_wI_nj, sm_wI_eq, sm_wA_ne, sm_wA_eq]; exact a2, by simp (disch := omega) only [sm_wI_ne, sm_wI_nj, sm_wI_eq, sm_wA_ne, sm_wA_eq]; exact a3, ?_⟩
      show _ = u32 (updN (hB H) i (hB H i - 1) j)
      unfold updN
      by_cases hji : j = i
      · rw [if_pos hji, hji, sm_wI_eq]
      · rw [if_neg hji]
        simp (disch := omega) only [sm_wI_ne, sm_wI_nj, sm_wI_eq, sm_wA_ne, sm_wA_eq]
        exact a4
    · simp (disch := omega) only [sm_wI_ne, sm_wI_nj, sm_wI_eq, sm_wA_ne, sm_wA_eq]
      exact h3
    · simp (disch := omega) only [sm_wI_ne, sm_wI_nj, sm_wI_eq, sm_wA_ne, sm_wA_eq]
      rfl
    · simp (disch := omega) only [sm_wI_ne, sm_wI_nj, sm_wI_eq, sm_wA_ne, sm_wA_eq]
    · simp (disch := omega) only [sm_wI_ne, sm_wI_nj, sm_wI_eq, sm_wA_ne, sm_wA_eq]
    · have hw : ∀ j, 4 ≤ j → j < 4 + (hO H).length → (sm_wI (sm_wI (sm_wI (sm_wI w 63 (b + 4 + (hO H).length) (u32 x)) 63 (b + 12 + (hO H).length) (u32 i)) 63 (b + 2) (u32 ((hO H).length + 1))) 63 (b + 26 + i) (u32 (hB H i - 1))).1 63 (b + j) = w.1 63 (b + j) := by
        intro j a1 a2
        simp (disch := omega) only [sm_wI_ne, sm_wI_nj, sm_wI_eq, sm_wA_ne, sm_wA_eq]
      have hw2 : ∀ j, 12 ≤ j → j < 12 + (hO H).length → (sm_wI (sm_wI (sm_wI (sm_wI w 63 (b + 4 + (hO H).length) (u32 x)) 63 (b + 12 + (hO H).length) (u32 i)) 63 (b + 2) (u32 ((hO H).length + 1))) 63 (b + 26 + i) (u32 (hB H i - 1))).1 63 (b + j) = w.1 63 (b + j) := by
        intro j a1 a2
        simp (disch := omega) only [sm_wI_ne, sm_wI_nj, sm_wI_eq, sm_wA_ne, sm_wA_eq]
      generalize sm_wI (sm_wI (sm_wI (sm_wI w 63 (b + 4 + (hO H).length) (u32 x)) 63 (b + 12 + (hO H).length) (u32 i)) 63 (b + 2) (u32 ((hO H).length + 1))) 63 (b + 26 + i) (u32 (hB H i - 1)) = w1 at hw hw2
      clear h4
      generalize hO H = od at h5 hw hw2 h8
      have key : ∀ (od' : List (Nat × Nat)), od'.length ≤ od.length → ordM w b od' → ordM w1 b od' := by
        intro od'
        induction od' with
        | nil => intro _ _; trivial
        | cons p r ih =>
          intro hl ho
          rw [List.length_cons] at hl
          refine ⟨?_, ?_, ih (by omega) ho.2.2⟩
          · rw [Nat.add_assoc, hw (4 + r.length) (by omega) (by omega), ← Nat.add_assoc]
            exact ho.1
          · rw [Nat.add_assoc, hw2 (12 + r.length) (by omega) (by omega), ← Nat.add_assoc]
            exact ho.2.1
      exact key od (Nat.le_refl _) h5
  · exact QFr.trans (QFr.trans (QFr.trans (QFr.wI (by omega)) (QFr.wI (by omega))) (QFr.wI (by omega))) (QFr.wI (by omega))
theorem mo_keepPast_loop {D : Nat} (hD : D < 40) : ∀ (m i F : Nat) (w : sm_Mem), i + m = 31 → m < F → w.1 63 0 = u32 D → ∃ w1, ff_mo_keepPast_2_f F (u32 i) w = some (.null, w1) ∧ w1.1 63 0 = u32 (D + 1) ∧ (∀ k, i ≤ k → k < 31 → w1.1 63 (32 + 31 * D + k) = w.1 63 (1 + k)) ∧ QFr (fun j => j ≠ 0 ∧ (j < 32 + 31 * D + i ∨ 63 + 31 * D ≤ j)) w w1 := by
  intro m
  induction m with
  | zero =>
    intro i F w hm hF hw
    obtain ⟨F, rfl⟩ : ∃ G, F = G + 1 := ⟨F - 1, by omega⟩
    refine ⟨sm_wI w 63 0 (u32 (D + 1)), ?_, sm_wI_eq, fun k a b => absurd a (by omega), QFr.wI (by omega)⟩
    rw [ff_mo_keepPast_2_f]
    unfold ff_mo_keepPast_2_b
    simp (disch := omega) only [u32_lit, sm_let_eq, sm_bind_some, sm_cI_some, sm_cV_some, sm_cL_some, sm_rd_u, sm_wr_u, u32_add, u32_mul, u32_sub, u32_le, u32_lt, u32_eq, u32_eq_neg, u32_neg_eq, u32_neg_neg, u32_le_neg, u32_neg_lt, u32_lt_neg, u32_neg_le, u10, u01, u3n0, u1n0, u4n0, n9_lt, n1_lt, n9_neg, n1_neg, if_true, if_false, if_pos, if_neg, ne_eq, not_true_eq_false, not_false_eq_true, hw]
  | succ m ih =>
    intro i F w hm hF hw
    obtain ⟨F, rfl⟩ : ∃ G, F = G + 1 := ⟨F - 1, by omega⟩
    obtain ⟨w1, a1, a2, a3, a4⟩ := ih (i + 1) F (sm_wI w 63 (32 + 31 * D + i) (w.1 63 (1 + i))) (by omega) (by omega) (by simp (disch := omega) only [sm_wI_ne, sm_wI_nj, sm_wI_eq, sm_wA_ne, sm_wA_eq]; exact hw)
    refine ⟨w1, ?_, a2, fun k b1 b2 => ?_, ?_⟩
    · rw [ff_mo_keepPast_2_f]
      unfold ff_mo_keepPast_2_b
      simp (disch := omega) only [u32_lit, sm_let_eq, sm_bind_some, sm_cI_some, sm_cV_some, sm_cL_some, sm_rd_u, sm_wr_u, u32_add, u32_mul, u32_sub, u32_le, u32_lt, u32_eq, u32_eq_neg, u32_neg_eq, u32_neg_neg, u32_le_neg, u32_neg_lt, u32_lt_neg, u32_neg_le, u10, u01, u3n0, u1n0, u4n0, n9_lt, n1_lt, n9_neg, n1_neg, if_true, if_false, if_pos, if_neg, ne_eq, not_true_eq_false, not_false_eq_true, hw]
      exact a1
    · by_cases hk : k = i
      · subst hk
        rw [a4.2.1 _ (by omega), sm_wI_eq]
      · rw [a3 k (by omega) b2]
        simp (disch := omega) only [sm_wI_ne, sm_wI_nj, sm_wI_eq, sm_wA_ne, sm_wA_eq]
    · exact QFr.trans (QFr.wI (by omega)) (a4.imp (fun j hj => by omega))
theorem mo_keepPast {D : Nat} {w : sm_Mem} (hD : D < 40) (hw : w.1 63 0 = u32 D) : ∃ w1, ff_mo_keepPast w = some (.null, w1) ∧ w1.1 63 0 = u32 (D + 1) ∧ (∀ k, k < 31 → w1.1 63 (32 + 31 * D + k) = w.1 63 (1 + k)) ∧ QFr (fun j => j ≠ 0 ∧ (j < 32 + 31 * D ∨ 63 + 31 * D ≤ j)) w w1 := by
  unfold ff_mo_keepPast ff_mo_keepPast_2
  rw [sm_N_eq]
  obtain ⟨w1, a1, a2, a3, a4⟩ := mo_keepPast_loop hD 31 0 1000000 w (by omega) (by omega) hw
  exact ⟨w1, a1, a2, fun k hk => a3 k (by omega) hk, a4.imp (fun j hj => by omega)⟩
/-- what could be undone, and one deed more: from before (w), the past kept (w1), the deed done (w2) -/
theorem MKept_deed {w w1 w2 : sm_Mem} {B : HBase} {ds : List Deed} {d : Deed} (hB : BOk B) (hl : ds.length < 40) (hv : validV B ds) (h : MKept w B 0 ds) (h1 : w1.1 63 0 = u32 (ds.length + 1)) (h2 : ∀ k, k < 31 → w1.1 63 (32 + 31 * ds.length + k) = w.1 63 (1 + k)) (h3 : QFr (fun j => j ≠ 0 ∧ (j < 32 + 31 * ds.length ∨ 63 + 31 * ds.length ≤ j)) w w1) (h4 : MHX w2 0 (perfV B (playV B ds) d)) (h5 : QFr (fun j => j = 0 ∨ 32 ≤ j) w1 w2) : MKept w2 B 0 (d :: ds) := by
  have e : ∀ a, a ≠ 63 → w2.1 a = w.1 a := fun a ha => (h5.1 a ha).trans (h3.1 a ha)
  refine ⟨?_, h4, ?_, ?_⟩
  · rw [h5.2.1 0 (Or.inl rfl), h1]
    rfl
  · refine MHX_fr (w := w) (b := 0) (playV_ok hB ds (by omega) hv).1 (by rw [e 62 (by decide)]) (e 64 (by decide)) (e 65 (by decide)) (fun j a1 a2 => ?_) h.2.1
    rw [h5.2.1 _ (by omega)]
    have := h2 (j - 1) (by omega)
    rw [show 0 + 31 + 31 * ds.length + j = 32 + 31 * ds.length + (j - 1) by omega, this]
    rw [show 1 + (j - 1) = 0 + j by omega]
  · refine pastM_fr (w := w) (b := 0) hB (by rw [e 62 (by decide)]) (e 64 (by decide)) (e 65 (by decide)) ds (by omega) hv (fun j a1 a2 => ?_) h.2.2
    rw [h5.2.1 _ (by omega), h3.2.1 _ (by omega)]
theorem mo_end_act {B : HBase} {X : HX} {w : sm_Mem} (h : MHX w 0 X) (he : X.2 < 999) : ∃ w2, sm_wI (sm_wI w 63 2 (u32 0)) 63 3 (u32 (X.2 + 1)) = w2 ∧ MHX w2 0 (perfV B X (1, 0, 0)) ∧ QFr (fun j => j = 0 ∨ 32 ≤ j) w w2 := by
  obtain ⟨⟨h1, h2, h3, h4, h5⟩, hE⟩ := h
  refine ⟨_, rfl, ⟨⟨?_, fun j hj => ?_, ?_, ?_, trivial⟩, ?_⟩, ?_⟩
  · simp (disch := omega) only [sm_wI_ne, sm_wI_nj, sm_wI_eq, sm_wA_ne, sm_wA_eq]
    exact h1
  · simp (disch := omega) only [sm_wI_ne, sm_wI_nj, sm_wI_eq, sm_wA_ne, sm_wA_eq]
    exact h2 j hj
  · simp (disch := omega) only [sm_wI_ne, sm_wI_nj, sm_wI_eq, sm_wA_ne, sm_wA_eq]
    exact h3
  · simp (disch := omega) only [sm_wI_ne, sm_wI_nj, sm_wI_eq, sm_wA_ne, sm_wA_eq]
    rfl
  · simp (disch := omega) only [sm_wI_ne, sm_wI_nj, sm_wI_eq, sm_wA_ne, sm_wA_eq]
    rfl
  · exact QFr.trans (QFr.wI (by omega)) (QFr.wI (by omega))
theorem mo_doEnd {B : HBase} {ds : List Deed} {w : sm_Mem} (hB : BOk B) (hl : ds.length < 40) (hv : validV B ds) (h : MKept w B 0 ds) : ∃ w2, ff_mo_doEnd w = some (.int (u32 (hO (playV B ds).1).length), w2) ∧ MKept w2 B 0 ((1, 0, 0) :: ds) ∧ QFr (fun j => 1272 ≤ j) w w2 := by
  obtain ⟨w1, a1, a2, a3, a4⟩ := mo_keepPast hl h.1
  have hok := (playV_ok hB ds (by omega) hv).1
  have hx : MHX w1 0 (playV B ds) := MHX_fr hok (by rw [a4.1 62 (by decide)]) (a4.1 64 (by decide)) (a4.1 65 (by decide)) (fun j b1 b2 => a4.2.1 _ (by omega)) h.2.1
  obtain ⟨w2, b1, b2, b3⟩ := mo_end_act (B := B) hx (by have := playV_small (B := B) ds; omega)
  refine ⟨w2, ?_, MKept_deed hB hl hv h a2 a3 a4 b2 b3, (a4.imp (fun j hj => by omega)).trans (b3.imp (fun j hj => by omega))⟩
  have g2 := hx.1.2.2.2.1
  have g3 := hx.2
  rw [Nat.zero_add] at g2 g3
  unfold ff_mo_doEnd
  rw [a1]
  simp (disch := omega) only [u32_lit, sm_let_eq, sm_bind_some, sm_cI_some, sm_cV_some, sm_cL_some, sm_rd_u, sm_wr_u, u32_add, u32_mul, u32_sub, u32_le, u32_lt, u32_eq, u32_eq_neg, u32_neg_eq, u32_neg_neg, u32_le_neg, u32_neg_lt, u32_lt_neg, u32_neg_le, u10, u01, u3n0, u1n0, u4n0, n9_lt, n1_lt, n9_neg, n1_neg, if_true, if_false, if_pos, if_neg, ne_eq, not_true_eq_false, not_false_eq_true, g2, sm_wI_ne, sm_wI_nj, sm_wI_eq, sm_wA_ne, sm_wA_eq, g3]
  rw [b1]
theorem mo_hour_loop {B : HBase} {n hr : Nat} (hn6 : n ≤ 6) : ∀ (m i F : Nat) (w : sm_Mem), i + m = n → m < F → w.1 62 1 = u32 n → w.1 63 1 = u32 hr → (∀ i, i < n → w.1 66 i = u32 (B.2.2.2.2 i)) → ∃ w1, ff_mo_doHour_16_f F (u32 i) w = some (.int (u32 hr), w1) ∧ (∀ j, i ≤ j → j < n → w1.1 63 (26 + j) = u32 (B.2.2.2.2 j)) ∧ QFr (fun j => j < 26 + i ∨ 32 ≤ j) w w1 := by
  intro m
  induction m with
  | zero =>
    intro i F w hm hF hn hr hb
    obtain ⟨F, rfl⟩ : ∃ G, F = G + 1 := ⟨F - 1, by omega⟩
    refine ⟨w, ?_, fun j h1 h2 => absurd h1 (by omega), QFr.refl⟩
    rw [ff_mo_doHour_16_f]
    unfold ff_mo_doHour_16_b
    simp (disch := omega) only [u32_lit, sm_let_eq, sm_bind_some, sm_cI_some, sm_cV_some, sm_cL_some, sm_rd_u, sm_wr_u, u32_add, u32_mul, u32_sub, u32_le, u32_lt, u32_eq, u32_eq_neg, u32_neg_eq, u32_neg_neg, u32_le_neg, u32_neg_lt, u32_lt_neg, u32_neg_le, u10, u01, u3n0, u1n0, u4n0, n9_lt, n1_lt, n9_neg, n1_neg, if_true, if_false, if_pos, if_neg, ne_eq, not_true_eq_false, not_false_eq_true, hn, hr]
  | succ m ih =>
    intro i F w hm hF hn hr hb
    obtain ⟨F, rfl⟩ : ∃ G, F = G + 1 := ⟨F - 1, by omega⟩
    obtain ⟨w1, h1, h2, h3⟩ := ih (i + 1) F (sm_wI w 63 (26 + i) (u32 (B.2.2.2.2 i))) (by omega) (by omega) (by simp (disch := omega) only [sm_wI_ne, sm_wI_nj, sm_wI_eq, sm_wA_ne, sm_wA_eq]; exact hn) (by simp (disch := omega) only [sm_wI_ne, sm_wI_nj, sm_wI_eq, sm_wA_ne, sm_wA_eq]; exact hr) (fun j hj => by simp (disch := omega) only [sm_wI_ne, sm_wI_nj, sm_wI_eq, sm_wA_ne, sm_wA_eq]; exact hb j hj)
    refine ⟨w1, ?_, fun j a b => ?_, QFr.trans (QFr.wI (by omega)) (h3.imp (fun j hj => by omega))⟩
    · rw [ff_mo_doHour_16_f]
      unfold ff_mo_doHour_16_b
      simp (disch := omega) only [u32_lit, sm_let_eq, sm_bind_some, sm_cI_some, sm_cV_some, sm_cL_some, sm_rd_u, sm_wr_u, u32_add, u32_mul, u32_sub, u32_le, u32_lt, u32_eq, u32_eq_neg, u32_neg_eq, u32_neg_neg, u32_le_neg, u32_neg_lt, u32_lt_neg, u32_neg_le, u10, u01, u3n0, u1n0, u4n0, n9_lt, n1_lt, n9_neg, n1_neg, if_true, if_false, if_pos, if_neg, ne_eq, not_true_eq_false, not_false_eq_true, hn, hb i (by omega)]
      exact h1
    · by_cases hji : j = i
      · rw [hji, h3.2.1 _ (by omega), sm_wI_eq]
      · exact h2 j (by omega) b
theorem mo_doHour {B : HBase} {ds : List Deed} {w : sm_Mem} (hB : BOk B) (hl : ds.length < 40) (hv : validV B ds) (hM : MB w B) (h : MKept w B 0 ds) : ∃ w2, ff_mo_doHour w = some (.int (u32 (hH (playV B ds).1 + 1)), w2) ∧ MKept w2 B 0 ((2, 0, 0) :: ds) ∧ QFr (fun j => 1272 ≤ j) w w2 := by
  obtain ⟨w1, a1, a2, a3, a4⟩ := mo_keepPast hl h.1
  obtain ⟨hok, hn⟩ := playV_ok hB ds (by omega) hv
  have hx : MHX w1 0 (playV B ds) := MHX_fr hok (by rw [a4.1 62 (by decide)]) (a4.1 64 (by decide)) (a4.1 65 (by decide)) (fun j b1 b2 => a4.2.1 _ (by omega)) h.2.1
  have hsm := playV_small (B := B) ds
  have hB6 := hB.1
  obtain ⟨⟨g1, g2, g3, g4, g5⟩, g6⟩ := id hx
  rw [Nat.zero_add] at g3 g4 g6
  obtain ⟨w2, b1, b2, b3⟩ := mo_hour_loop (B := B) (n := B.1) (hr := hH (playV B ds).1 + 1) hB.1 B.1 0 1000000 (sm_wI w1 63 1 (u32 (hH (playV B ds).1 + 1))) (by omega) (by omega) (by simp (disch := omega) only [sm_wI_ne, sm_wI_nj, sm_wI_eq, sm_wA_ne, sm_wA_eq]; rw [← hn]; exact g1) sm_wI_eq (fun i hi => by simp (disch := omega) only [sm_wI_ne, sm_wI_nj, sm_wI_eq, sm_wA_ne, sm_wA_eq]; rw [a4.1 66 (by decide)]; exact hM i hi)
  have b3 := (QFr.wI (p := fun j => j = 0 ∨ (2 ≤ j ∧ j < 26) ∨ 32 ≤ j) (w := w1) (j := 1) (x := u32 (hH (playV B ds).1 + 1)) (by omega)).trans (b3.imp (fun j hj => by omega))
  have hx2 : MHX w2 0 (perfV B (playV B ds) (2, 0, 0)) := by
    refine ⟨⟨?_, fun j hj => ?_, ?_, ?_, ?_⟩, ?_⟩
    · rw [b3.1 62 (by decide)]; exact g1
    · have hj : j < hN (playV B ds).1 := hj
      have h6 := hok.1
      obtain ⟨c1, c2, c3, c4⟩ := g2 j hj
      refine ⟨by rw [b3.1 64 (by decide)]; exact c1, by rw [b3.1 65 (by decide)]; exact c2, ?_, ?_⟩
      · rw [b3.2.1 _ (by omega)]; exact c3
      · have := b2 j (by omega) (by omega)
        rw [Nat.zero_add]
        exact this
    · rw [Nat.zero_add]
      have : w2.1 63 1 = (sm_wI w1 63 1 (u32 (hH (playV B ds).1 + 1))).1 63 1 := by
        obtain ⟨w2', b1', b2', b3'⟩ := mo_hour_loop (B := B) (n := B.1) (hr := hH (playV B ds).1 + 1) hB.1 B.1 0 1000000 (sm_wI w1 63 1 (u32 (hH (playV B ds).1 + 1))) (by omega) (by omega) (by simp (disch := omega) only [sm_wI_ne, sm_wI_nj, sm_wI_eq, sm_wA_ne, sm_wA_eq]; rw [← hn]; exact g1) sm_wI_eq (fun i hi => by simp (disch := omega) only [sm_wI_ne, sm_wI_nj, sm_wI_eq, sm_wA_ne, sm_wA_eq]; rw [a4.1 66 (by decide)]; exact hM i hi)
        rw [b1'] at b1
        cases b1
        exact b3'.2.1 1 (by omega)
      rw [this, sm_wI_eq]
      rfl
    · rw [Nat.zero_add, b3.2.1 2 (by omega)]; exact g4
    · exact ordM_fr _ hok.2.2.2.1 (fun j c1 c2 => b3.2.1 _ (by omega)) g5
    · rw [Nat.zero_add, b3.2.1 3 (by omega)]; exact g6
  refine ⟨w2, ?_, MKept_deed hB hl hv h a2 a3 a4 hx2 (b3.imp (fun j hj => by omega)), (a4.imp (fun j hj => by omega)).trans (b3.imp (fun j hj => by omega))⟩
  unfold ff_mo_doHour ff_mo_doHour_16
  rw [a1]
  simp (disch := omega) only [u32_lit, sm_let_eq, sm_bind_some, sm_cI_some, sm_cV_some, sm_cL_some, sm_rd_u, sm_wr_u, u32_add, u32_mul, u32_sub, u32_le, u32_lt, u32_eq, u32_eq_neg, u32_neg_eq, u32_neg_neg, u32_le_neg, u32_neg_lt, u32_lt_neg, u32_neg_le, u10, u01, u3n0, u1n0, u4n0, n9_lt, n1_lt, n9_neg, n1_neg, if_true, if_false, if_pos, if_neg, ne_eq, not_true_eq_false, not_false_eq_true, g3, sm_N_eq]
  exact b1
theorem mo_doSay {B : HBase} {ds : List Deed} {i x : Nat} {w : sm_Mem} (hB : BOk B) (hl : ds.length < 40) (hv : validV B ds) (h : MKept w B 0 ds) (hi : i < hN (playV B ds).1) (hc : canV (playV B ds).1 i x = true) : ∃ w1 w2, ff_mo_keepPast w = some (.null, w1) ∧ ff_mo_says (u32 0) (u32 i) (u32 x) w1 = some (.null, w2) ∧ MKept w2 B 0 ((0, i, x) :: ds) ∧ QFr (fun j => 1272 ≤ j) w w2 := by
  obtain ⟨w1, a1, a2, a3, a4⟩ := mo_keepPast hl h.1
  have hok := (playV_ok hB ds (by omega) hv).1
  have hx : MHX w1 0 (playV B ds) := MHX_fr hok (by rw [a4.1 62 (by decide)]) (a4.1 64 (by decide)) (a4.1 65 (by decide)) (fun j b1 b2 => a4.2.1 _ (by omega)) h.2.1
  obtain ⟨c1, c2⟩ := canV_free hc
  obtain ⟨w2, b1, b2, b3⟩ := mo_says (x := x) hx.1 hok (by decide) hi c1 c2
  refine ⟨w1, w2, a1, b1, MKept_deed hB hl hv h a2 a3 a4 ⟨b2, ?_⟩ (b3.imp (fun j hj => by omega)), (a4.imp (fun j hj => by omega)).trans (b3.imp (fun j hj => by omega))⟩
  rw [b3.2.1 _ (by omega)]
  exact hx.2
theorem mo_doWalk {B : HBase} {ds : List Deed} {i x : Nat} {w : sm_Mem} (hB : BOk B) (hl : ds.length < 40) (hv : validV B ds) (h : MKept w B 0 ds) (hi : i < hN (playV B ds).1) (hx6 : x < 6) : ∃ w1, ff_mo_keepPast w = some (.null, w1) ∧ MKept (sm_wI w1 63 (20 + i) (u32 x)) B 0 ((3, i, x) :: ds) ∧ QFr (fun j => 1272 ≤ j) w (sm_wI w1 63 (20 + i) (u32 x)) := by
  obtain ⟨w1, a1, a2, a3, a4⟩ := mo_keepPast hl h.1
  have hok := (playV_ok hB ds (by omega) hv).1
  have h6 := hok.1
  have hx : MHX w1 0 (playV B ds) := MHX_fr hok (by rw [a4.1 62 (by decide)]) (a4.1 64 (by decide)) (a4.1 65 (by decide)) (fun j b1 b2 => a4.2.1 _ (by omega)) h.2.1
  obtain ⟨⟨g1, g2, g3, g4, g5⟩, g6⟩ := id hx
  have b3 : QFr (fun j => j < 20 ∨ 26 ≤ j) w1 (sm_wI w1 63 (20 + i) (u32 x)) := QFr.wI (by omega)
  refine ⟨w1, a1, MKept_deed hB hl hv h a2 a3 a4 ⟨⟨?_, fun j hj => ?_, ?_, ?_, ?_⟩, ?_⟩ (b3.imp (fun j hj => by omega)), (a4.imp (fun j hj => by omega)).trans (b3.imp (fun j hj => by omega))⟩
  · rw [b3.1 62 (by decide)]; exact g1
  · have hj : j < hN (playV B ds).1 := hj
    obtain ⟨c1, c2, c3, c4⟩ := g2 j hj
    refine ⟨by rw [b3.1 64 (by decide)]; exact c1, by rw [b3.1 65 (by decide)]; exact c2, ?_, by rw [b3.2.1 _ (by omega)]; exact c4⟩
    show _ = u32 (updN (hR (playV B ds).1) i x j)
    unfold updN
    rw [Nat.zero_add]
    by_cases hji : j = i
    · rw [if_pos hji, hji, sm_wI_eq]
    · rw [if_neg hji, sm_wI_nj (by omega)]
      rw [Nat.zero_add] at c3
      exact c3
  · rw [b3.2.1 _ (by omega)]; exact g3
  · rw [b3.2.1 _ (by omega)]; exact g4
  · have h8 := hok.2.2.2.1
    exact ordM_fr _ h8 (fun j c1 c2 => b3.2.1 _ (by omega)) g5
  · rw [b3.2.1 _ (by omega)]; exact g6
