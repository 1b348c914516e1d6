/-! pure: fault -/
theorem mo_skip_loop {t n : Nat} {it : List It} (ht : t < 4) (hn : n ≤ 60) : ∀ (m q F : Nat) (w : sm_Mem), q ≤ n → n ≤ q + m → m < F → PSt w t n q it → ∃ (p : Nat) (w1 : sm_Mem), ff_mo_skip_0_f F w = some (.null, w1) ∧ PSt w1 t n p it ∧ PFr w w1 ∧ q ≤ p ∧ p ≤ n ∧ psr (fun j => w.1 70 (60 * t + j)) n q it = psr (fun j => w.1 70 (60 * t + j)) n p it ∧ (p < n → ¬ w.1 70 (60 * t + p) = u32 32) := by
  intro m
  induction m with
  | zero =>
    intro q F w hq hm hF h
    obtain ⟨F, rfl⟩ : ∃ G, F = G + 1 := ⟨F - 1, by omega⟩
    refine ⟨q, w, ?_, h, PFr.refl, by omega, by omega, rfl, fun hp => absurd hp (by omega)⟩
    rw [ff_mo_skip_0_f]
    unfold ff_mo_skip_0_b
    rw [h.2.2.1, h.2.1]
    simp (disch := omega) only [u32_lit, sm_let_eq, sm_bind_some, sm_cI_some, sm_cV_some, sm_cL_some, sm_rd_u, sm_wr_u, u32_add, u32_mul, u32_sub, u32_le, u32_lt, u32_eq, u32_eq_neg, u32_neg_eq, u32_neg_neg, u32_le_neg, u32_neg_lt, u32_lt_neg, u32_neg_le, u10, u01, u3n0, u1n0, u4n0, n9_lt, n1_lt, n9_neg, n1_neg, if_true, if_false, if_pos, if_neg, ne_eq, not_true_eq_false, not_false_eq_true]
  | succ m ih =>
    intro q F w hq hm hF h
    obtain ⟨F, rfl⟩ : ∃ G, F = G + 1 := ⟨F - 1, by omega⟩
    by_cases hqn : q < n
    · by_cases hb : w.1 70 (60 * t + q) = u32 32
      · obtain ⟨p, w1, h1, h2, h3, h4, h5, h6, h7⟩ := ih (q + 1) F (sm_wI w 62 15 (u32 (q + 1))) (by omega) (by omega) (by omega) h.to
        have e : (fun j => (sm_wI w 62 15 (u32 (q + 1))).1 70 (60 * t + j)) = (fun j => w.1 70 (60 * t + j)) := by
          funext j
          rw [sm_wI_ne (by decide)]
        rw [e] at h6
        rw [sm_wI_ne (by decide)] at h7
        refine ⟨p, w1, ?_, h2, PFr.trans (PFr.at (by decide)) h3, by omega, h5, by rw [psr_blank hqn hb]; exact h6, h7⟩
        rw [ff_mo_skip_0_f]
        unfold ff_mo_skip_0_b
        rw [h.2.2.1, h.2.1]
        simp (disch := omega) only [u32_lit, u32_le, if_neg, mo_here h ht (show q < 60 by omega), sm_cI_some, hb, if_true, sm_let_eq, h.2.1, u32_add]
        exact h1
      · refine ⟨q, w, ?_, h, PFr.refl, by omega, by omega, rfl, fun _ => hb⟩
        rw [ff_mo_skip_0_f]
        unfold ff_mo_skip_0_b
        rw [h.2.2.1, h.2.1]
        simp (disch := omega) only [u32_lit, u32_le, if_neg, mo_here h ht (show q < 60 by omega), sm_cI_some, hb, if_false]
    · refine ⟨q, w, ?_, h, PFr.refl, by omega, by omega, rfl, fun hp => absurd hp (by omega)⟩
      rw [ff_mo_skip_0_f]
      unfold ff_mo_skip_0_b
      rw [h.2.2.1, h.2.1]
      simp (disch := omega) only [u32_lit, sm_let_eq, sm_bind_some, sm_cI_some, sm_cV_some, sm_cL_some, sm_rd_u, sm_wr_u, u32_add, u32_mul, u32_sub, u32_le, u32_lt, u32_eq, u32_eq_neg, u32_neg_eq, u32_neg_neg, u32_le_neg, u32_neg_lt, u32_lt_neg, u32_neg_le, u10, u01, u3n0, u1n0, u4n0, n9_lt, n1_lt, n9_neg, n1_neg, if_true, if_false, if_pos, if_neg, ne_eq, not_true_eq_false, not_false_eq_true]
theorem mo_skip {t n q : Nat} {it : List It} {w : sm_Mem} (ht : t < 4) (hn : n ≤ 60) (hq : q ≤ n) (h : PSt w t n q it) : ∃ (p : Nat) (w1 : sm_Mem), ff_mo_skip w = some (.null, w1) ∧ PSt w1 t n p it ∧ PFr w w1 ∧ q ≤ p ∧ p ≤ n ∧ psr (fun j => w.1 70 (60 * t + j)) n q it = psr (fun j => w.1 70 (60 * t + j)) n p it ∧ (p < n → ¬ w.1 70 (60 * t + p) = u32 32) := by
  unfold ff_mo_skip ff_mo_skip_0
  rw [sm_N_eq]
  exact mo_skip_loop ht hn n q 1000000 w hq (by omega) (by omega) h
theorem mo_f65_no {w : sm_Mem} : ff_mo_faultOf_65 (u32 0) w = some (.int (w.1 62 15), w) := by
  unfold ff_mo_faultOf_65 ff_mo_faultOf_81
  simp (disch := omega) only [u32_lit, sm_let_eq, sm_bind_some, sm_cI_some, sm_cV_some, sm_cL_some, sm_rd_u, sm_wr_u, u32_add, u32_mul, u32_sub, u32_le, u32_lt, u32_eq, u32_eq_neg, u32_neg_eq, u32_neg_neg, u32_le_neg, u32_neg_lt, u32_lt_neg, u32_neg_le, u10, u01, u3n0, u1n0, u4n0, n9_lt, n1_lt, n9_neg, n1_neg, if_true, if_false, if_pos, if_neg, ne_eq, not_true_eq_false, not_false_eq_true]
theorem mo_fault_loop {t n : Nat} (ht : t < 4) (hn : n ≤ 60) : ∀ (m q F : Nat) (it : List It) (w : sm_Mem), q ≤ n → n ≤ q + m → m + 1 < F → it.length ≤ 6 → PSt w t n q it → (q < n → ¬ w.1 70 (60 * t + q) = u32 32) → ∃ (p : Nat) (w1 : sm_Mem), ff_mo_faultOf_34_f F (u32 1) w = some (.int (fAns (psr (fun j => w.1 70 (60 * t + j)) n q it).1), w1) ∧ PSt w1 t n p (psr (fun j => w.1 70 (60 * t + j)) n q it).2 ∧ PFr w w1 := by
  intro m
  induction m using Nat.strongRecOn with
  | ind m ih =>
    intro q F it w hq hm hF h6 h hb
    obtain ⟨F, rfl⟩ : ∃ G, F = G + 1 := ⟨F - 1, by omega⟩
    rw [ff_mo_faultOf_34_f]
    unfold ff_mo_faultOf_34_b
    rw [h.2.2.1, h.2.1]
    by_cases hqn : q < n
    · simp (disch := omega) only [u32_lit, u10, if_false, u32_le, if_neg]
      have hb := hb hqn
      have noF : ∀ (F : Nat) (w : sm_Mem), 0 < F → ff_mo_faultOf_34_f F (u32 0) w = some (.int (w.1 62 15), w) := by
        intro F w hF
        obtain ⟨F, rfl⟩ : ∃ G, F = G + 1 := ⟨F - 1, by omega⟩
        rw [ff_mo_faultOf_34_f]
        unfold ff_mo_faultOf_34_b
        simp only [u32_lit, if_true]
        exact mo_f65_no
      by_cases hs : it.length = 6
      · rw [psr_seven hqn hb hs]
        refine ⟨q, w, ?_, h, PFr.refl⟩
        have hr : ff_mo_readsSpeaker w = some (.int (u32 0), w) := by
          unfold ff_mo_readsSpeaker
          simp (disch := omega) only [u32_lit, sm_cI_some, mo_here h ht (show q < 60 by omega), mo_kindOfLetter]
          cases hk : kOf (w.1 70 (60 * t + q)) with
          | none => simp (disch := omega) only [fAns, if_true]
          | some k =>
            have := kOf_lt hk
            simp (disch := omega) only [u32_lit, sm_let_eq, sm_bind_some, sm_cI_some, sm_cV_some, sm_cL_some, sm_rd_u, sm_wr_u, u32_add, u32_mul, u32_sub, u32_le, u32_lt, u32_eq, u32_eq_neg, u32_neg_eq, u32_neg_neg, u32_le_neg, u32_neg_lt, u32_lt_neg, u32_neg_le, u10, u01, u3n0, u1n0, u4n0, n9_lt, n1_lt, n9_neg, n1_neg, if_true, if_false, if_pos, if_neg, ne_eq, not_true_eq_false, not_false_eq_true, fAns, h.2.2.2.1, hs]
        rw [hr]
        simp only [sm_cI_some, if_true]
        rw [noF F w (by omega), h.2.1]
        rfl
      · have hx := mo_reads h ht hn hqn (by omega)
        cases hp : pit (fun j => w.1 70 (60 * t + j)) n q with
        | inl e =>
          rw [hp] at hx
          obtain ⟨w1, h1, h2, h3⟩ := hx
          rw [psr_bad hqn hb hs hp]
          refine ⟨e, w1, ?_, h2, h3⟩
          rw [h1]
          simp only [sm_cI_some, if_true]
          rw [noF F w1 (by omega), h2.2.1]
          rfl
        | inr x =>
          rw [hp] at hx
          obtain ⟨w1, h1, h2, h3⟩ := hx
          obtain ⟨k, a, b, r, e, g1⟩ := pit_ok hp
          rw [psr_item hqn hb hs hp, h1]
          simp only [sm_cI_some, u10, if_false]
          obtain ⟨p, w2, i1, i2, i3, i4, i5, i6, i7⟩ := mo_skip ht hn (by omega) h2
          rw [i1]
          simp only [sm_cV_some]
          have e1 : (fun j => w1.1 70 (60 * t + j)) = (fun j => w.1 70 (60 * t + j)) := by
            funext j
            rw [h3.1 70 (by decide) (by decide)]
          have e2 : (fun j => w2.1 70 (60 * t + j)) = (fun j => w.1 70 (60 * t + j)) := by
            funext j
            rw [i3.1 70 (by decide) (by decide), h3.1 70 (by decide) (by decide)]
          rw [e1] at i6
          have j0 := ih (m - 5) (by omega) p F (it ++ [x]) w2 i5 (by omega) (by omega) (by rw [List.length_append]; simp; omega) i2 (fun hpn => by rw [i3.1 70 (by decide) (by decide)]; exact i7 hpn)
          rw [e2] at j0
          obtain ⟨p2, w3, j1, j2, j3⟩ := j0
          rw [i6]
          exact ⟨p2, w3, j1, j2, PFr.trans h3 (PFr.trans i3 j3)⟩
    · simp (disch := omega) only [u32_lit, u10, if_false, u32_le, if_pos]
      rw [psr_end (by omega)]
      unfold ff_mo_faultOf_65 ff_mo_faultOf_81
      refine ⟨q, w, ?_, h, PFr.refl⟩
      rw [h.2.2.2.1, h.2.1]
      by_cases h0 : it.length = 0
      · rw [h0]
        simp (disch := omega) only [u32_lit, sm_let_eq, sm_bind_some, sm_cI_some, sm_cV_some, sm_cL_some, sm_rd_u, sm_wr_u, u32_add, u32_mul, u32_sub, u32_le, u32_lt, u32_eq, u32_eq_neg, u32_neg_eq, u32_neg_neg, u32_le_neg, u32_neg_lt, u32_lt_neg, u32_neg_le, u10, u01, u3n0, u1n0, u4n0, n9_lt, n1_lt, n9_neg, n1_neg, if_true, if_false, if_pos, if_neg, ne_eq, not_true_eq_false, not_false_eq_true, fAns]
      · simp (disch := omega) only [u32_lit, sm_let_eq, sm_bind_some, sm_cI_some, sm_cV_some, sm_cL_some, sm_rd_u, sm_wr_u, u32_add, u32_mul, u32_sub, u32_le, u32_lt, u32_eq, u32_eq_neg, u32_neg_eq, u32_neg_neg, u32_le_neg, u32_neg_lt, u32_lt_neg, u32_neg_le, u10, u01, u3n0, u1n0, u4n0, n9_lt, n1_lt, n9_neg, n1_neg, if_true, if_false, if_pos, if_neg, ne_eq, not_true_eq_false, not_false_eq_true, fAns]
theorem mo_faultOf {t n : Nat} {w : sm_Mem} (ht : t < 4) (hn : n ≤ 60) (hw : w.1 69 t = u32 n) : ∃ (p : Nat) (w1 : sm_Mem), ff_mo_faultOf (u32 t) w = some (.int (fAns (psr (fun j => w.1 70 (60 * t + j)) n 0 []).1), w1) ∧ PSt w1 t n p (psr (fun j => w.1 70 (60 * t + j)) n 0 []).2 ∧ PFr w w1 := by
  have h0 : PSt (sm_wI (sm_wI (sm_wI (sm_wI w 62 14 (u32 (60 * t))) 62 15 (u32 0)) 62 16 (u32 n)) 62 18 (u32 0)) t n 0 [] := by
    refine ⟨?_, ?_, ?_, ?_, fun i x hx => by simp at hx⟩ <;> simp (disch := omega) only [sm_wI_ne, sm_wI_nj, sm_wI_eq, sm_wA_ne, sm_wA_eq, List.length_nil]
  have hf : PFr w (sm_wI (sm_wI (sm_wI (sm_wI w 62 14 (u32 (60 * t))) 62 15 (u32 0)) 62 16 (u32 n)) 62 18 (u32 0)) := PFr.trans (PFr.trans (PFr.trans (PFr.at (by decide)) (PFr.at (by decide))) (PFr.at (by decide))) (PFr.at (by decide))
  unfold ff_mo_faultOf
  simp (disch := omega) only [u32_lit, sm_let_eq, sm_bind_some, sm_rd_u, sm_wI_ne, sm_wI_nj, sm_wI_eq, sm_wA_ne, sm_wA_eq, hw, u32_mul]
  generalize sm_wI (sm_wI (sm_wI (sm_wI w 62 14 (u32 (60 * t))) 62 15 (u32 0)) 62 16 (u32 n)) 62 18 (u32 0) = w0 at h0 hf ⊢
  obtain ⟨p, w2, i1, i2, i3, i4, i5, i6, i7⟩ := mo_skip ht hn (by omega) h0
  rw [i1]
  simp only [sm_cV_some]
  have e1 : (fun j => w0.1 70 (60 * t + j)) = (fun j => w.1 70 (60 * t + j)) := by
    funext j
    rw [hf.1 70 (by decide) (by decide)]
  have e2 : (fun j => w2.1 70 (60 * t + j)) = (fun j => w.1 70 (60 * t + j)) := by
    funext j
    rw [i3.1 70 (by decide) (by decide), hf.1 70 (by decide) (by decide)]
  rw [e1] at i6
  unfold ff_mo_faultOf_34
  rw [sm_N_eq]
  have j0 := mo_fault_loop ht hn n p 1000000 [] w2 i5 (by omega) (by omega) (by simp) i2 (fun hpn => by rw [i3.1 70 (by decide) (by decide)]; exact i7 hpn)
  rw [e2] at j0
  obtain ⟨p2, w3, j1, j2, j3⟩ := j0
  rw [i6]
  exact ⟨p2, w3, j1, j2, PFr.trans hf (PFr.trans i3 j3)⟩
theorem RCells_PFr {w w1 : sm_Mem} (h : RC w) (hf : PFr w w1) : RCells w w1 :=
  ⟨RRows_fr (fun a ha => hf.1 a (by omega) (by omega)) h.1, RTexts_fr (fun a ha => hf.1 a (by omega) (by omega)) h.2.1, RTold_fr (w := w) ⟨by rw [hf.1 60 (by decide) (by decide)], by rw [hf.1 60 (by decide) (by decide)], hf.1 61 (by decide) (by decide), hf.1 71 (by decide) (by decide), hf.2.1 9 (by decide), hf.2.1 12 (by decide)⟩ hf.2.2 h.2.2, fun a ha => hf.1 a (by omega) (by omega), hf.2.1 1 (by decide)⟩
theorem op_fault {t : Int32} {w : sm_Mem} (h : RC w) : Both (ff_ho_fault t) (ff_mo_fault t) (RCells w) w := by
  rcases aCases t 4 with hr | ⟨t, hr, -, rfl⟩
  · refine Both_same (-u32 1) ?_ ?_ h
    · unfold ff_ho_fault
      simp (disch := omega) only [u32_lit, sm_let_eq, sm_bind_some, sm_cI_some, sm_cV_some, sm_cL_some, sm_rd_u, sm_wr_u, u32_add, u32_mul, u32_sub, u32_le, u32_lt, u32_eq, u32_eq_neg, u32_neg_eq, u32_neg_neg, u32_le_neg, u32_neg_lt, u32_lt_neg, u32_neg_le, u10, u01, u3n0, u1n0, u4n0, n9_lt, n1_lt, n9_neg, n1_neg, if_true, if_false, if_pos, if_neg, ne_eq, not_true_eq_false, not_false_eq_true, miss_text_bad hr]
    · unfold ff_mo_fault
      simp (disch := omega) only [u32_lit, sm_let_eq, sm_bind_some, sm_cI_some, sm_cV_some, sm_cL_some, sm_rd_u, sm_wr_u, u32_add, u32_mul, u32_sub, u32_le, u32_lt, u32_eq, u32_eq_neg, u32_neg_eq, u32_neg_neg, u32_le_neg, u32_neg_lt, u32_lt_neg, u32_neg_le, u10, u01, u3n0, u1n0, u4n0, n9_lt, n1_lt, n9_neg, n1_neg, if_true, if_false, if_pos, if_neg, ne_eq, not_true_eq_false, not_false_eq_true, mo_isText_bad hr]
  have hR := isRow_text hr
  rcases (h.2.1 t hr).cases with ⟨hc, hm⟩ | ⟨n, hn, hc, hm, he⟩
  · refine Both_ref 1 ?_ ?_ h
    · unfold ff_ho_fault
      simp (disch := omega) only [u32_lit, sm_let_eq, sm_bind_some, sm_cI_some, sm_cV_some, sm_cL_some, sm_rd_u, sm_wr_u, u32_add, u32_mul, u32_sub, u32_le, u32_lt, u32_eq, u32_eq_neg, u32_neg_eq, u32_neg_neg, u32_le_neg, u32_neg_lt, u32_lt_neg, u32_neg_le, u10, u01, u3n0, u1n0, u4n0, n9_lt, n1_lt, n9_neg, n1_neg, if_true, if_false, if_pos, if_neg, ne_eq, not_true_eq_false, not_false_eq_true, miss_text_none hr hc]
    · unfold ff_mo_fault
      simp (disch := omega) only [u32_lit, sm_let_eq, sm_bind_some, sm_cI_some, sm_cV_some, sm_cL_some, sm_rd_u, sm_wr_u, u32_add, u32_mul, u32_sub, u32_le, u32_lt, u32_eq, u32_eq_neg, u32_neg_eq, u32_neg_neg, u32_le_neg, u32_neg_lt, u32_lt_neg, u32_neg_le, u10, u01, u3n0, u1n0, u4n0, n9_lt, n1_lt, n9_neg, n1_neg, if_true, if_false, if_pos, if_neg, ne_eq, not_true_eq_false, not_false_eq_true, mo_isText_good hr, wcRef_ne, hm, mo_find]
  · obtain ⟨p, w1, h1, -, h2⟩ := mo_faultOf hr hn hm
    refine Both_mk (.int (fAns (psr (w.1 (15 + 2 * t + 1)) n 0 []).1)) w w1 ?_ ?_ (RCells_PFr h h2)
    · unfold ff_ho_fault
      simp (disch := omega) only [u32_lit, sm_let_eq, sm_bind_some, sm_cI_some, sm_cV_some, sm_cL_some, sm_rd_u, sm_wr_u, u32_add, u32_mul, u32_sub, u32_le, u32_lt, u32_eq, u32_eq_neg, u32_neg_eq, u32_neg_neg, u32_le_neg, u32_neg_lt, u32_lt_neg, u32_neg_le, u10, u01, u3n0, u1n0, u4n0, n9_lt, n1_lt, n9_neg, n1_neg, if_true, if_false, if_pos, if_neg, ne_eq, not_true_eq_false, not_false_eq_true, miss_text_some hr (show n < 2147483648 by omega) hc, rr_text hr, ho_faultOf hR hn hc]
    · unfold ff_mo_fault
      simp (disch := omega) only [u32_lit, sm_cI_some, sm_bind_some, sm_rd_u, mo_isText_good hr, u10, if_false, hm, u0_le, if_true, h1]
      rw [psr_congr he]
