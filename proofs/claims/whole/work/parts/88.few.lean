/-! pure: few -/
theorem rds_sh {w : sm_Mem} {s m i : Nat} (hs : sm_shape[s]? = some (.inr (.inl m))) (hi : i < m) (hm : m ≤ 60) : sm_rds w s (u32 i) = some (w.1 s i) := by
  unfold sm_rds
  rw [hs]
  exact sm_rd_u hi (by omega)
theorem al_sh {s m : Nat} (hs : sm_shape[s]? = some (.inr (.inl m))) : sm_al s = some (u32 m) := by
  unfold sm_al
  rw [hs]
  rfl
theorem rw_become_loop {k s m L : Nat} (hR : isRow k 40) (hs : sm_shape[s]? = some (.inr (.inl m))) (hm : m ≤ 40) (hL : L ≤ m) (hsk : s ≠ k ∧ s ≠ k + 1) : ∀ (n j F : Nat) (w : sm_Mem), j + n = L → n < F → w.1 k 1 = u32 L → ∃ w1, ff_rw_become_13_f F k s (u32 j) w = some (.null, w1) ∧ (∀ i, j ≤ i → i < L → w1.1 (k + 1) i = w.1 s i) ∧ (∀ i, i < j → w1.1 (k + 1) i = w.1 (k + 1) i) ∧ (∀ a, a ≠ k + 1 → w1.1 a = w.1 a) ∧ w1.2 = w.2 := by
  intro n
  induction n with
  | zero =>
    intro j F w hj hF hw
    obtain ⟨F, rfl⟩ : ∃ G, F = G + 1 := ⟨F - 1, by omega⟩
    refine ⟨w, ?_, fun i a b => absurd a (by omega), fun _ _ => rfl, fun _ _ => rfl, rfl⟩
    rw [ff_rw_become_13_f]
    unfold ff_rw_become_13_b
    simp (disch := omega) only [hR.gI, hw, bs_, u32_le, if_pos]
  | succ n ih =>
    intro j F w hj hF hw
    obtain ⟨F, rfl⟩ : ∃ G, F = G + 1 := ⟨F - 1, by omega⟩
    obtain ⟨w1, a1, a2, a3, a4, a5⟩ := ih (j + 1) F (sm_wI w (k + 1) j (w.1 s j)) (by omega) (by omega) (by rw [sm_wI_ne (by omega)]; exact hw)
    refine ⟨w1, ?_, fun i h1 h2 => ?_, fun i h1 => ?_, fun a h1 => by rw [a4 a h1, sm_wI_ne h1], by rw [a5]; rfl⟩
    · rw [ff_rw_become_13_f]
      unfold ff_rw_become_13_b
      simp (disch := omega) only [u32_lit, hR.gI, hw, bs_, u32_le, if_neg, hR.fk, rds_sh hs (show j < m by omega) (by omega), hR.wrs (show j < 40 by omega), u32_add]
      exact a1
    · by_cases e : i = j
      · rw [e, a3 j (by omega), sm_wI_eq]
      · rw [a2 i (by omega) h2, sm_wI_ne hsk.2]
    · rw [a3 i (by omega), sm_wI_nj (by omega)]
theorem rw_become {k s m L : Nat} {w : sm_Mem} (hR : isRow k 40) (hs : sm_shape[s]? = some (.inr (.inl m))) (hm : m ≤ 40) (hL : L ≤ m) (hsk : s ≠ k ∧ s ≠ k + 1) : ∃ w1, ff_rw_become k s (u32 L) w = some (.null, w1) ∧ w1.1 k 1 = u32 L ∧ (∀ i, i < L → w1.1 (k + 1) i = w.1 s i) ∧ (∀ a, a ≠ k → a ≠ k + 1 → w1.1 a = w.1 a) ∧ w1.2 = w.2 := by
  obtain ⟨w1, a1, a2, a3, a4, a5⟩ := rw_become_loop hR hs hm hL hsk L 0 1000000 (sm_wA (sm_wI w k 1 (u32 L)) (k + 1) (fillF (w.1 (k + 1)) 0 L (u32 0))) (by omega) (by omega) (by rw [sm_wA_ne (by omega), sm_wI_eq])
  refine ⟨w1, ?_, by rw [a4 k (by omega), sm_wA_ne (by omega), sm_wI_eq], fun i hi => by rw [a2 i (Nat.zero_le _) hi, sm_wA_ne hsk.2, sm_wI_ne hsk.1], fun a h1 h2 => by rw [a4 a h2, sm_wA_ne h2, sm_wI_ne h1], by rw [a5]; rfl⟩
  have e : (if u32 m < u32 L then u32 m else u32 L) = u32 L := by
    simp (disch := omega) only [u32_lt, if_neg]
  unfold ff_rw_become ff_rw_become_13
  simp (disch := omega) only [u32_lit, al_sh hs, bs_, e, rw_begin hR (show L ≤ 40 by omega), hR.rc, cV_]
  rw [sm_N_eq]
  exact a1
theorem R_done_row {to : Nat} {w w1 w2 w3 w4 : sm_Mem} {B : HBase} {ds : List Deed} (hto : to < 6) (hc : RC w) (hh : RHs w B ds) (hx : XFr w w1) (hC : CH w1 (playV B ds).1) (hb : ∀ a, a ≠ 2 + 2 * to → a ≠ 2 + 2 * to + 1 → w2.1 a = w1.1 a) (hm : MFr w2 w3) (h4 : ∀ a, a ≠ 67 → a ≠ 68 → a < 73 → w4.1 a = w3.1 a) (h67 : ∀ r, r ≠ to → w4.1 67 r = w3.1 67 r) (h68 : ∀ r j, r ≠ to → j < 40 → w4.1 68 (40 * r + j) = w3.1 68 (40 * r + j)) (hrow : RRow w4 to) (h9 : w3.1 62 9 = w.1 62 9) (h0 : w1.1 60 0 = w.1 60 0) (hl : w4.2 = w.2) : R w4 := by
  have same : ∀ a, a ≠ 2 + 2 * to → a ≠ 2 + 2 * to + 1 → a ≠ 67 → a ≠ 68 → (a < 36 ∨ (36 < a ∧ a < 42) ∨ (44 < a ∧ a < 49) ∨ a = 61 ∨ (62 < a ∧ a < 73)) → w4.1 a = w.1 a := fun a x y z t ha => by
    rw [h4 a z t (by omega), hm.1 a (by omega), hb a x y]
    exact hx.1 a (by omega)
  have e1 : w4.1 62 1 = w.1 62 1 := by rw [h4 62 (by decide) (by decide) (by decide), hm.2.1, hb 62 (by omega) (by omega), hx.1 62 (by omega)]
  refine ⟨⟨fun r hr => ?_, RTexts_fr (fun a ha => same a (by omega) (by omega) (by omega) (by omega) (by omega)) hc.2.1, ?_⟩, B, ds, RHs_search hh (CH_fr (fun a h1 h2 => by rw [h4 a (by omega) (by omega) (by omega), hm.1 a (by omega), hb a (by omega) (by omega)]) hC) (fun a ha => same a (by omega) (by omega) (by omega) (by omega) (by omega)) (fun j hj => by rw [h4 36 (by omega) (by omega) (by omega), hm.1 36 (by omega), hb 36 (by omega) (by omega)]; exact hx.2.1 j hj) e1⟩
  · by_cases e : r = to
    · rw [e]; exact hrow
    · have H := hc.1 r hr
      unfold RRow at H ⊢
      rw [same (2 + 2 * r) (by omega) (by omega) (by omega) (by omega) (by omega), same (2 + 2 * r + 1) (by omega) (by omega) (by omega) (by omega) (by omega), h67 r e]
      have e67 : w3.1 67 = w.1 67 := by rw [hm.1 67 (by omega), hb 67 (by omega) (by omega), hx.1 67 (by omega)]
      have e68 : w3.1 68 = w.1 68 := by rw [hm.1 68 (by omega), hb 68 (by omega) (by omega), hx.1 68 (by omega)]
      rw [e67]
      obtain ⟨o, a1, a2, a3⟩ := H
      refine ⟨o, a1, a2, fun n hn => ⟨(a3 n hn).1, fun j hj => ?_⟩⟩
      have := (a3 n hn).1
      rw [h68 r j e (by omega), e68]
      exact (a3 n hn).2 j hj
  · obtain ⟨t1, t2, t3, t4, t5⟩ := hc.2.2
    have e60 : w4.1 60 = w1.1 60 := by rw [h4 60 (by omega) (by omega) (by omega), hm.1 60 (by omega), hb 60 (by omega) (by omega)]
    have e62 : w4.1 62 = w3.1 62 := h4 62 (by omega) (by omega) (by omega)
    refine ⟨by rw [e60, e62, h9, h0]; exact t1, by rw [hl]; exact t2, by rw [hl]; exact t3, ?_, fun f hf => ?_⟩
    · rw [e60, e62, hx.2.2, hm.2.2, hb 62 (by omega) (by omega), hx.1 62 (by omega)]
      exact t4
    · rw [same 61 (by omega) (by omega) (by omega) (by omega) (by omega), same 71 (by omega) (by omega) (by omega) (by omega) (by omega)]
      exact t5 f hf
theorem mo_few_copy {self : Int32 → Int32 → sm_Mem → sm_R} {t x : Int32} {L : Nat} (hL : L ≤ 5) : ∀ (m j F : Nat) (w : sm_Mem), j + m = L → m < F → w.1 62 21 = u32 L → ∃ w1, ff_mo_few_67_f self F t x (u32 j) w = self t x w1 ∧ (∀ i, j ≤ i → i < L → w1.1 77 i = w.1 75 i) ∧ (∀ i, i < j → w1.1 77 i = w.1 77 i) ∧ (∀ a, a ≠ 77 → w1.1 a = w.1 a) ∧ w1.2 = w.2 := by
  intro m
  induction m with
  | zero =>
    intro j F w hj hF hw
    obtain ⟨F, rfl⟩ : ∃ G, F = G + 1 := ⟨F - 1, by omega⟩
    refine ⟨w, ?_, fun i a b => absurd a (by omega), fun _ _ => rfl, fun _ _ => rfl, rfl⟩
    rw [ff_mo_few_67_f]
    unfold ff_mo_few_67_b
    simp (disch := omega) only [hw, u32_le, if_pos]
  | succ m ih =>
    intro j F w hj hF hw
    obtain ⟨F, rfl⟩ : ∃ G, F = G + 1 := ⟨F - 1, by omega⟩
    obtain ⟨w1, a1, a2, a3, a4, a5⟩ := ih (j + 1) F (sm_wI w 77 j (w.1 75 j)) (by omega) (by omega) (by rw [sm_wI_ne (by decide)]; exact hw)
    refine ⟨w1, ?_, fun i h1 h2 => ?_, fun i h1 => ?_, fun a h1 => by rw [a4 a h1, sm_wI_ne h1], by rw [a5]; rfl⟩
    · rw [ff_mo_few_67_f]
      unfold ff_mo_few_67_b
      simp (disch := omega) only [u32_lit, hw, u32_le, if_neg, sm_rd_u, bs_, sm_wr_u, u32_add]
      exact a1
    · by_cases e : i = j
      · rw [e, a3 j (by omega), sm_wI_eq]
      · rw [a2 i (by omega) h2, sm_wI_ne (by decide)]
    · rw [a3 i (by omega), sm_wI_nj (by omega)]
theorem mo_few_out {t L : Nat} {x : Int32} (ht : t < 6) (hL : L ≤ 5) : ∀ (m j F : Nat) (w : sm_Mem), j + m = L → m < F → w.1 62 21 = u32 L → ∃ w1, ff_mo_few_121_f F (u32 t) x (u32 j) w = some (.int x, w1) ∧ (∀ i, j ≤ i → i < L → w1.1 68 (40 * t + i) = w.1 77 i) ∧ (∀ i, (i < 40 * t + j ∨ 40 * t + L ≤ i) → w1.1 68 i = w.1 68 i) ∧ (∀ a, a ≠ 68 → w1.1 a = w.1 a) ∧ w1.2 = w.2 := by
  intro m
  induction m with
  | zero =>
    intro j F w hj hF hw
    obtain ⟨F, rfl⟩ : ∃ G, F = G + 1 := ⟨F - 1, by omega⟩
    refine ⟨w, ?_, fun i a b => absurd a (by omega), fun _ _ => rfl, fun _ _ => rfl, rfl⟩
    rw [ff_mo_few_121_f]
    unfold ff_mo_few_121_b
    simp (disch := omega) only [hw, u32_le, if_pos]
  | succ m ih =>
    intro j F w hj hF hw
    obtain ⟨F, rfl⟩ : ∃ G, F = G + 1 := ⟨F - 1, by omega⟩
    obtain ⟨w1, a1, a2, a3, a4, a5⟩ := ih (j + 1) F (sm_wI w 68 (40 * t + j) (w.1 77 j)) (by omega) (by omega) (by rw [sm_wI_ne (by decide)]; exact hw)
    refine ⟨w1, ?_, fun i h1 h2 => ?_, fun i h1 => ?_, fun a h1 => by rw [a4 a h1, sm_wI_ne h1], by rw [a5]; rfl⟩
    · rw [ff_mo_few_121_f]
      unfold ff_mo_few_121_b
      simp (disch := omega) only [u32_lit, hw, u32_le, if_neg, sm_rd_u, bs_, u32_mul, sm_wr_u, u32_add]
      exact a1
    · by_cases e : i = j
      · rw [e, a3 (40 * t + j) (by omega), sm_wI_eq]
      · rw [a2 i (by omega) h2, sm_wI_ne (by decide)]
    · rw [a3 i (by omega), sm_wI_nj (by omega)]
/-- the model's fewest so far -/
def fewC : Option (Nat × List Nat) → Nat
  | none => 7
  | some b => b.1
def FewW (w : sm_Mem) (L : Nat) (o : Option (Nat × List Nat)) : Prop := ∀ b, o = some b → b.1 ≤ 6 ∧ b.2.length = L ∧ ∀ j x, b.2[j]? = some x → w.1 77 j = u32 x
theorem mo_few_loop {gs : List Gl} {H : HV} {sil t : Nat} (h6 : hN H ≤ 6) (ht : t < 6) : ∀ (l : List (List Nat)) (F : Nat) (o : Option (Nat × List Nat)) (w : sm_Mem), l.length < F → NW w gs H sil l → FewW w gs.length o → ∃ w1, ff_mo_few_37_f F (u32 t) (u32 (fewC o)) w = (match l.foldl (bestS gs.length) o with
    | none => some (.int (-u32 9), w1)
    | some b => ff_mo_few_121 (u32 t) (u32 b.1) (u32 0) (sm_wA (sm_wI w1 67 t (u32 gs.length)) 68 (fillF (w1.1 68) (40 * t) (40 * t + 40) (u32 0)))) ∧ (∀ a, a < 73 → a ≠ 62 → w1.1 a = w.1 a) ∧ (∀ j, j ≠ 27 → w1.1 62 j = w.1 62 j) ∧ w1.2 = w.2 ∧ FewW w1 gs.length (l.foldl (bestS gs.length) o) := by
  intro l
  induction l with
  | nil =>
    intro F o w hF hN ho
    obtain ⟨F, rfl⟩ : ∃ G, F = G + 1 := ⟨F - 1, by rw [List.length_nil] at hF; omega⟩
    obtain ⟨w1, a1, a2⟩ := mo_nextWay hN
    refine ⟨w1, ?_, fun a h1 h2 => a2.1 a h2 (by omega) (by omega), a2.2.1, a2.2.2, fun b hb => ?_⟩
    · rw [ff_mo_few_37_f]
      unfold ff_mo_few_37_b
      rw [a1, List.foldl_nil]
      have e21 : w1.1 62 21 = u32 gs.length := by rw [a2.2.1 21 (by decide)]; exact hN.1.2.1
      cases o with
      | none =>
        simp only [u32_lit, cI_, if_true, fewC]
      | some b =>
        have hb := ho b rfl
        have e7 : (u32 b.1 = u32 7) = False := by
          rw [u32_eq (by omega) (by omega)]
          exact eq_false (by omega)
        simp only [u32_lit, cI_, if_true, fewC, e7, if_false, e21, mo_makeRow ht, cV_]
    · obtain ⟨x1, x2, x3⟩ := ho b hb
      exact ⟨x1, x2, fun j x hx => by rw [a2.1 77 (by decide) (by decide) (by decide)]; exact x3 j x hx⟩
  | cons q l ih =>
    intro F o w hF hN ho
    rw [List.length_cons] at hF
    obtain ⟨F, rfl⟩ : ∃ G, F = G + 1 := ⟨F - 1, by omega⟩
    have h5 := hN.1.1
    obtain ⟨w1, a1, a2, a3, a4⟩ := mo_nextWay hN
    have hq := a3.lt h6
    have hp6 := popV_le (usedN q)
    have hfo : fewC o ≤ 7 := by
      cases o with
      | none => exact Nat.le_refl _
      | some b => have := (ho b rfl).1; exact Nat.le_succ_of_le this
    have hbest : bestS gs.length o q = if fewC o ≤ popV (usedN q) then o else some (popV (usedN q), q) := by
      unfold bestS
      rw [if_pos a3.1]
      cases o with
      | none => rw [if_neg (by show ¬ 7 ≤ _; omega)]
      | some b =>
        show (if popV (usedN q) < b.1 then _ else _) = if b.1 ≤ _ then _ else _
        by_cases h : b.1 ≤ popV (usedN q)
        · rw [if_pos h, if_neg (by omega)]
        · rw [if_neg h, if_pos (by omega)]
    have step : ff_mo_few_37_f (F + 1) (u32 t) (u32 (fewC o)) w = if fewC o ≤ popV (usedN q) then ff_mo_few_37_f F (u32 t) (u32 (fewC o)) w1 else ff_mo_few_67 (ff_mo_few_37_f F) (u32 t) (u32 (popV (usedN q))) (u32 0) w1 := by
      rw [ff_mo_few_37_f]
      unfold ff_mo_few_37_b
      rw [a1]
      simp (disch := omega) only [u32_lit, cI_, u10, if_false, mo_spokeIn a4.1 a3, mo_bits hq, u32_le]
    rw [List.foldl_cons, hbest]
    by_cases hle : fewC o ≤ popV (usedN q)
    · rw [if_pos hle] at step ⊢
      have ho1 : FewW w1 gs.length o := fun b hb => by
        obtain ⟨x1, x2, x3⟩ := ho b hb
        exact ⟨x1, x2, fun j x hx => by rw [a2.1 77 (by decide) (by decide) (by decide)]; exact x3 j x hx⟩
      obtain ⟨w2, b1, b2, b3, b4, b5⟩ := ih F o w1 (by omega) a4 ho1
      exact ⟨w2, by rw [step]; exact b1, fun a h1 h2 => by rw [b2 a h1 h2, a2.1 a h2 (by omega) (by omega)], fun j hj => by rw [b3 j hj, a2.2.1 j hj], by rw [b4, a2.2.2], b5⟩
    · rw [if_neg hle] at step ⊢
      obtain ⟨w2, c1, c2, c3, c4, c5⟩ := mo_few_copy (self := ff_mo_few_37_f F) (t := u32 t) (x := u32 (popV (usedN q))) h5 gs.length 0 1000000 w1 (by omega) (by omega) a4.1.2.1
      have ho1 : FewW w2 gs.length (some (popV (usedN q), q)) := fun b hb => by
        cases hb
        refine ⟨hp6, a3.1, fun j x hx => ?_⟩
        have hj : j < gs.length := by have := (List.getElem?_eq_some_iff.mp hx).1; rw [← a3.1]; exact this
        rw [c2 j (Nat.zero_le _) hj]
        exact (a3.2 j x hx).1
      obtain ⟨w3, b1, b2, b3, b4, b5⟩ := ih F (some (popV (usedN q), q)) w2 (by omega) (a4.fr (fun j hj => by rw [c4 62 (by decide)]) (fun a ha => c4 a (by omega))) ho1
      refine ⟨w3, ?_, fun a h1 h2 => by rw [b2 a h1 h2, c4 a (by omega), a2.1 a h2 (by omega) (by omega)], fun j hj => by rw [b3 j hj, c4 62 (by decide), a2.2.1 j hj], by rw [b4, c5, a2.2.2], b5⟩
      rw [step]
      unfold ff_mo_few_67
      rw [sm_N_eq, c1]
      exact b1
theorem op_few {r t : Int32} {w : sm_Mem} (h : R w) : Both (ff_ho_few r t) (ff_mo_few r t) R w := by
  obtain ⟨hc, B, ds, hh⟩ := id h
  obtain ⟨hok, hn, n1, n2, n6⟩ := hh.n
  rcases aCases t 6 with ht | ⟨t, ht, -, rfl⟩
  · refine BothR_same h (-u32 1) ?_ ?_
    · unfold ff_ho_few
      simp (disch := omega) only [u32_lit, let_, bs_, cI_, cV_, cL_, sm_rd_u, sm_wr_u, u32_add, u32_mul, u32_sub, u32_le, u32_lt, u32_eq, u32_eq_neg, u32_neg_eq, u32_neg_neg, u32_le_neg, u32_neg_lt, u32_lt_neg, u32_neg_le, u10, u01, u3n0, u1n0, u4n0, n9_lt, n1_lt, n9_neg, n1_neg, if_true, if_false, if_pos, if_neg, ne_eq, not_true_eq_false, not_false_eq_true, ho_within_bad ht]
    · unfold ff_mo_few
      rcases aCases r 6 with hr | ⟨r, hr, -, rfl⟩
      · simp (disch := omega) only [u32_lit, let_, bs_, cI_, cV_, cL_, sm_rd_u, sm_wr_u, u32_add, u32_mul, u32_sub, u32_le, u32_lt, u32_eq, u32_eq_neg, u32_neg_eq, u32_neg_neg, u32_le_neg, u32_neg_lt, u32_lt_neg, u32_neg_le, u10, u01, u3n0, u1n0, u4n0, n9_lt, n1_lt, n9_neg, n1_neg, if_true, if_false, if_pos, if_neg, ne_eq, not_true_eq_false, not_false_eq_true, mo_isRow_bad hr]
      · simp (disch := omega) only [u32_lit, let_, bs_, cI_, cV_, cL_, sm_rd_u, sm_wr_u, u32_add, u32_mul, u32_sub, u32_le, u32_lt, u32_eq, u32_eq_neg, u32_neg_eq, u32_neg_neg, u32_le_neg, u32_neg_lt, u32_lt_neg, u32_neg_le, u10, u01, u3n0, u1n0, u4n0, n9_lt, n1_lt, n9_neg, n1_neg, if_true, if_false, if_pos, if_neg, ne_eq, not_true_eq_false, not_false_eq_true, mo_isRow_good hr, mo_isRow_bad ht]
  rcases aCases r 6 with hr | ⟨r, hr, -, rfl⟩
  · refine BothR_same h (-u32 1) ?_ ?_
    · unfold ff_ho_few ff_ho_refusalOfWords
      simp (disch := omega) only [u32_lit, let_, bs_, cI_, cV_, cL_, sm_rd_u, sm_wr_u, u32_add, u32_mul, u32_sub, u32_le, u32_lt, u32_eq, u32_eq_neg, u32_neg_eq, u32_neg_neg, u32_le_neg, u32_neg_lt, u32_lt_neg, u32_neg_le, u10, u01, u3n0, u1n0, u4n0, n9_lt, n1_lt, n9_neg, n1_neg, if_true, if_false, if_pos, if_neg, ne_eq, not_true_eq_false, not_false_eq_true, ho_within_good ht, ho_within_bad hr]
    · unfold ff_mo_few
      simp (disch := omega) only [u32_lit, let_, bs_, cI_, cV_, cL_, sm_rd_u, sm_wr_u, u32_add, u32_mul, u32_sub, u32_le, u32_lt, u32_eq, u32_eq_neg, u32_neg_eq, u32_neg_neg, u32_le_neg, u32_neg_lt, u32_lt_neg, u32_neg_le, u10, u01, u3n0, u1n0, u4n0, n9_lt, n1_lt, n9_neg, n1_neg, if_true, if_false, if_pos, if_neg, ne_eq, not_true_eq_false, not_false_eq_true, mo_isRow_bad hr]
  have hm1 : ∀ w0, ff_mo_isRow (u32 r) w0 = some (.int (u32 1), w0) := fun w0 => mo_isRow_good hr
  have hm2 : ∀ w0, ff_mo_isRow (u32 t) w0 = some (.int (u32 1), w0) := fun w0 => mo_isRow_good ht
  rcases BothR_goal (ca := ff_ho_few (u32 r) (u32 t)) (ma := ff_mo_few (u32 r) (u32 t)) h (fun v w1 e hv => by
    unfold ff_ho_few
    simp (disch := omega) only [u32_lit, ho_within_good ht, e, cI_, if_neg hv, u10, if_false]) (fun w0 v w1 e hv _ => by
    unfold ff_mo_few
    simp only [u32_lit, hm1, hm2, e, cI_, if_neg hv, u10, if_false]) (goal_words hc hh hr) with ⟨gs, g5, gc, gsz, gat, gm⟩ | hb
  · obtain ⟨w1, a1, a2, a3, a4, a5, a6⟩ := words_run hr g5 gsz gat hh.2.2.2.2.2.1.1 hok
    have h6 := hok.1
    have hs := wys_small (sil := 0) h6 g5
    have hx : XFr w w1 := XFr.of a6
    have e8 := a4.1
    have e55 := a4.2.1
    rw [bestV_wys] at e8 e55
    have e36 : w1.1 49 3 = u32 gs.length := a5.2.2.1
    have hmodel : ∀ w2, (∀ a, 62 ≤ a → w2.1 a = w.1 a) → ∃ w5, MFr w2 w5 ∧ w5.2 = w2.2 ∧ w5.1 62 9 = w2.1 62 9 ∧ w5.1 62 21 = u32 gs.length ∧ FewW w5 gs.length ((wys 0 gs (playV B ds).1).foldl (bestS gs.length) none) ∧ ff_mo_few (u32 r) (u32 t) w2 = (match (wys 0 gs (playV B ds).1).foldl (bestS gs.length) none with
        | none => some (.int (-u32 9), w5)
        | some b => ff_mo_few_121 (u32 t) (u32 b.1) (u32 0) (sm_wA (sm_wI w5 67 t (u32 gs.length)) 68 (fillF (w5.1 68) (40 * t) (40 * t + 40) (u32 0)))) := by
      intro w2 hw2
      obtain ⟨w3, b1, b2, b3⟩ := gm w2 (fun a h1 h2 => hw2 a h1)
      obtain ⟨w4, c1, c2, c3⟩ := mo_beginWays b2
      obtain ⟨w5, d1, d2, d3, d4, d5⟩ := mo_few_loop h6 ht (wys 0 gs (playV B ds).1) 1000000 none w4 (by omega) c3 (fun b hb => by cases hb)
      have hf : MFr w4 w5 := ⟨fun a ha => d2 a (by omega) (by omega), d3 1 (by decide), d3 12 (by decide)⟩
      refine ⟨w5, ((MFr.l b3).trans (MFr.n c2)).trans hf, by rw [d4, c2.2.2, b3.2.2], by rw [d3 9 (by decide), c2.2.1 9 (by decide), b3.2.1 9 (by decide) (by decide) (by decide)], by rw [d3 21 (by decide), c2.2.1 21 (by decide)]; exact b2.2.1, d5, ?_⟩
      rw [← d1]
      unfold ff_mo_few ff_mo_few_37
      simp (disch := omega) only [u32_lit, hm1, hm2, cI_, u10, if_false, b1, if_true, c1, cV_, fewC]
      rw [sm_N_eq]
    cases hbst : (wys 0 gs (playV B ds).1).foldl (bestS gs.length) none with
    | none =>
      have h0 : (wys 0 gs (playV B ds).1).length = 0 := by
        cases hw : wys 0 gs (playV B ds).1 with
        | nil => rfl
        | cons q l =>
          rw [hw, List.foldl_cons] at hbst
          have hq := (wys_64 (gs := gs) h6 (show q ∈ wys 0 gs (playV B ds).1 by rw [hw]; exact List.mem_cons_self)).1
          have keep : ∀ (l : List (List Nat)) (b : Nat × List Nat), ∃ c, l.foldl (bestS gs.length) (some b) = some c := by
            intro l
            induction l with
            | nil => intro b; exact ⟨b, rfl⟩
            | cons p l ih =>
              intro b
              rw [List.foldl_cons]
              have : ∃ c, bestS gs.length (some b) p = some c := by
                unfold bestS
                split
                · dsimp only
                  split
                  · exact ⟨_, rfl⟩
                  · exact ⟨_, rfl⟩
                · exact ⟨_, rfl⟩
              obtain ⟨c, hc⟩ := this
              rw [hc]
              exact ih c
          have e1 : bestS gs.length none q = some (popV (usedN q), q) := by
            unfold bestS
            rw [if_pos hq]
          rw [e1] at hbst
          obtain ⟨c, hc⟩ := keep l (popV (usedN q), q)
          rw [hc] at hbst
          cases hbst
      have hclass : ff_ho_few (u32 r) (u32 t) w = some (.int (-u32 9), w1) := by
        unfold ff_ho_few
        simp (disch := omega) only [u32_lit, ho_within_good ht, u10, if_false, gc, cI_, if_true, rr_row hr, bs_, a1, cV_, wy_fullWays a5 a3, h0]
      obtain ⟨w5, m1, m2, m3, m4, m5, m6⟩ := hmodel w1 (fun a ha => hx.1 a (by omega))
      rw [hbst] at m6
      refine Both_mk _ _ _ hclass m6 (R_done hc hh hx a2 m1 ?_ ?_ ?_)
      · rw [m3, hx.1 62 (by omega), a6.1 60 (by omega)]
        exact hc.2.2.1
      · rw [m2, a6.2.2]; exact hc.2.2.2.1
      · rw [m2, a6.2.2]; exact hc.2.2.2.2.1
    | some b =>
      have h0 : ¬ (wys 0 gs (playV B ds).1).length = 0 := by
        intro h0
        rw [List.length_eq_zero_iff.mp h0] at hbst
        cases hbst
      rw [hbst] at e8 e55
      obtain ⟨x1, x2, x3⟩ := e55 b rfl
      have hRt := isRow_row ht
      obtain ⟨w2, b1, b2, b3, b4, b5⟩ := rw_become (s := 55) (m := 5) (L := gs.length) (w := w1) hRt rfl (by omega) g5 (by omega)
      have hclass : ff_ho_few (u32 r) (u32 t) w = some (.int (u32 b.1), w2) := by
        unfold ff_ho_few
        simp (disch := omega) only [u32_lit, ho_within_good ht, u10, if_false, gc, cI_, if_true, rr_row hr, bs_, a1, cV_, wy_fullWays a5 a3, u32_eq, if_neg h0, rr_row ht, e36, b1, hRt.rc]
        rw [b4 49 (by omega) (by omega), e8]
        rfl
      obtain ⟨w5, m1, m2, m3, m4, m5, m6⟩ := hmodel w2 (fun a ha => by rw [b4 a (by omega) (by omega)]; exact hx.1 a (by omega))
      rw [hbst] at m5 m6
      obtain ⟨y1, y2, y3⟩ := m5 b rfl
      obtain ⟨w6, c1, c2, c3, c4, c5⟩ := mo_few_out (x := u32 b.1) ht g5 gs.length 0 1000000 (sm_wA (sm_wI w5 67 t (u32 gs.length)) 68 (fillF (w5.1 68) (40 * t) (40 * t + 40) (u32 0))) (by omega) (by omega) (by rw [sm_wA_ne (by decide), sm_wI_ne (by decide)]; exact m4)
      have hmo : ff_mo_few (u32 r) (u32 t) w2 = some (.int (u32 b.1), w6) := by
        rw [m6]
        show ff_mo_few_121 _ _ _ _ = _
        unfold ff_mo_few_121
        rw [sm_N_eq]
        exact c1
      have e67 : w6.1 67 = (sm_wI w5 67 t (u32 gs.length)).1 67 := by rw [c4 67 (by decide), sm_wA_ne (by decide)]
      refine Both_mk _ _ _ hclass hmo (R_done_row ht hc hh hx a2 b4 m1 (fun a h1 h2 _ => ?_) (fun q hq => ?_) (fun q j hq hj => ?_) ?_ ?_ ?_ ?_)
      · rw [c4 a h2, sm_wA_ne h2, sm_wI_ne h1]
      · rw [e67, sm_wI_nj hq]
      · rw [c3 (40 * q + j) (by omega), sm_wA_eq]
        unfold fillF
        rw [if_neg (by omega)]
      · refine RRow.mk_some (n := gs.length) (by omega) ?_ ?_ (fun j hj => ?_)
        · rw [c4 _ (by omega), sm_wA_ne (by omega), sm_wI_ne (by omega), m1.1 _ (by omega)]
          exact b2
        · rw [e67, sm_wI_eq]
        · rw [c2 j (Nat.zero_le _) hj, sm_wA_ne (by decide), sm_wI_ne (by decide), c4 _ (by omega), sm_wA_ne (by omega), sm_wI_ne (by omega), m1.1 _ (by omega), b3 j hj]
          have hjb : b.2[j]? = some b.2[j] := List.getElem?_eq_getElem (by omega)
          rw [x3 j _ hjb, y3 j _ hjb]
      · rw [m3, b4 62 (by omega) (by omega), hx.1 62 (by omega)]
      · rw [a6.1 60 (by omega)]
      · rw [c5]
        show w5.2 = _
        rw [m2, b5, a6.2.2]
  · exact hb
