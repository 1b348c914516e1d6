/-! pure: what both refuse of a row of words or pairs; else it lies there alike -/
theorem bs_ {α : Type} {a : α} {f : α → sm_R} : Option.bind (some a) f = f a := (Eq.refl (f a)).trans (Eq.refl (f a))
theorem cI_ {x : Int32} {w : sm_Mem} {f : Int32 → sm_Mem → sm_R} : sm_cI (some (.int x, w)) f = f x w := (Eq.refl (f x w)).trans (Eq.refl (f x w))
theorem cL_ {x : Int64} {w : sm_Mem} {f : Int64 → sm_Mem → sm_R} : sm_cL (some (.long x, w)) f = f x w := (Eq.refl (f x w)).trans (Eq.refl (f x w))
theorem cV_ {w : sm_Mem} {f : sm_Mem → sm_R} : sm_cV (some (.null, w)) f = f w := (Eq.refl (f w)).trans (Eq.refl (f w))
theorem let_ {α : Type} {a : α} {f : α → sm_R} : sm_let a f = f a := (Eq.refl (f a)).trans (Eq.refl (f a))
def allW (g : Nat → Int32) : Nat → Nat → Bool
  | _, 0 => true
  | p, m + 1 => (wordOf (g p)).isSome && allW g (p + 1) m
theorem allW_congr {f g : Nat → Int32} : ∀ (m p : Nat), (∀ j, p ≤ j → j < p + m → f j = g j) → allW f p m = allW g p m
  | 0, _, _ => rfl
  | m + 1, p, h => by rw [allW, allW, h p (Nat.le_refl _) (by omega), allW_congr m (p + 1) (fun j a b => h j (by omega) (by omega))]
theorem allW_at {g : Nat → Int32} : ∀ (m p : Nat), allW g p m = true → ∀ j, p ≤ j → j < p + m → (g j).toInt.toNat < 6 ∧ g j = u32 (g j).toInt.toNat
  | 0, _, _, j, h1, h2 => absurd h1 (by omega)
  | m + 1, p, h, j, h1, h2 => by
    rw [allW, Bool.and_eq_true] at h
    by_cases e : j = p
    · subst e
      rcases wordOf_cases (g j) with ⟨e1, -⟩ | ⟨v, -, hv, ev⟩
      · rw [e1] at h; exact absurd h.1 (by decide)
      · have : (g j).toInt.toNat = v := by rw [ev, u32_toInt (by omega)]; omega
        rw [this]
        exact ⟨hv, ev⟩
    · exact allW_at m (p + 1) h.2 j (by omega) (by omega)
def glV (st : Nat) (g : Nat → Int32) (j : Nat) : Gl := ((g (st * j)).toInt.toNat, if st = 1 then none else some (g (st * j + 1)).toInt.toNat)
def glL (st : Nat) (g : Nat → Int32) (L : Nat) : List Gl := (List.range L).map (glV st g)
theorem glL_len {st L : Nat} {g : Nat → Int32} : (glL st g L).length = L := by
  unfold glL
  rw [List.length_map, List.length_range]
theorem glL_at {st L j : Nat} {g : Nat → Int32} {x : Gl} (h : (glL st g L)[j]? = some x) : j < L ∧ x = glV st g j := by
  unfold glL at h
  rw [List.getElem?_map] at h
  have hj : j < L := by
    by_cases hj : j < L
    · exact hj
    · rw [List.getElem?_eq_none (by rw [List.length_range]; omega)] at h
      cases h
  rw [List.getElem?_range hj] at h
  cases h
  exact ⟨hj, rfl⟩
theorem glV_at {st L j : Nat} {g : Nat → Int32} (hst : st = 1 ∨ st = 2) (h : allW g 0 (st * L) = true) (hj : j < L) : g (st * j) = u32 (glV st g j).1 ∧ (st = 1 → (glV st g j).2 = none) ∧ (st = 2 → g (2 * j + 1) = oAns (glV st g j).2) ∧ (glV st g j).1 < 6 ∧ ∀ q, (glV st g j).2 = some q → q < 6 := by
  rcases hst with rfl | rfl
  · obtain ⟨a1, a2⟩ := allW_at _ _ h (1 * j) (Nat.zero_le _) (by omega)
    refine ⟨a2, fun _ => rfl, fun h => absurd h (by decide), a1, fun q hq => ?_⟩
    unfold glV at hq
    rw [if_pos rfl] at hq
    cases hq
  · obtain ⟨a1, a2⟩ := allW_at _ _ h (2 * j) (Nat.zero_le _) (by omega)
    obtain ⟨b1, b2⟩ := allW_at _ _ h (2 * j + 1) (Nat.zero_le _) (by omega)
    refine ⟨a2, fun h => absurd h (by decide), fun _ => ?_, a1, fun q hq => ?_⟩
    · unfold glV
      rw [if_neg (by decide)]
      exact b2
    · unfold glV at hq
      rw [if_neg (by decide)] at hq
      cases hq
      exact b1
theorem rw_words_loop {c n : Nat} {w : sm_Mem} (hR : isRow c 40) (hn : n ≤ 40) (hw : w.1 c 1 = u32 n) : ∀ (m p F : Nat), p + m = n → m < F → ff_rw_isOfWords_2_f F c (u32 p) w = some (.int (u32 (allW (w.1 (c + 1)) p m).toNat), w) := by
  intro m
  induction m with
  | zero =>
    intro p F hp hF
    obtain ⟨F, rfl⟩ : ∃ G, F = G + 1 := ⟨F - 1, by omega⟩
    rw [ff_rw_isOfWords_2_f]
    unfold ff_rw_isOfWords_2_b
    simp (disch := omega) only [u32_lit, sm_let_eq, sm_bind_some, sm_cI_some, sm_cV_some, sm_cL_some, sm_rd_u, sm_wr_u, u32_add, u32_mul, u32_sub, u32_le, u32_lt, u32_eq, u32_eq_neg, u32_neg_eq, u32_neg_neg, u32_le_neg, u32_neg_lt, u32_lt_neg, u32_neg_le, u10, u01, u3n0, u1n0, u4n0, n9_lt, n1_lt, n9_neg, n1_neg, if_true, if_false, if_pos, if_neg, ne_eq, not_true_eq_false, not_false_eq_true, hR.gI, hw, allW, Bool.toNat_true]
  | succ m ih =>
    intro p F hp hF
    obtain ⟨F, rfl⟩ : ∃ G, F = G + 1 := ⟨F - 1, by omega⟩
    rw [ff_rw_isOfWords_2_f, allW]
    unfold ff_rw_isOfWords_2_b
    have ih := ih (p + 1) F (by omega) (by omega)
    simp (disch := omega) only [u32_lit, sm_bind_some, hR.gI, hw, hR.fk, u32_add, u32_le, if_neg, hR.rds (show p < 40 by omega), ih]
    rcases wordOf_cases (w.1 (c + 1) p) with ⟨e, hb⟩ | ⟨x, e, hx, ex⟩
    · rw [e, ho_within_bad hb (by decide)]
      simp only [sm_cI_some, if_true]
      rfl
    · rw [e, ex, ho_within_good hx (by decide)]
      simp only [sm_cI_some, u10, if_false]
      exact ih
theorem rw_pairs_loop {c n : Nat} {w : sm_Mem} (hR : isRow c 40) (hn : n ≤ 40) (hw : w.1 c 1 = u32 n) : ∀ (m p F : Nat), p + 2 * m = n → m < F → ff_rw_isOfPairs_2_f F c (u32 p) w = some (.int (u32 (allW (w.1 (c + 1)) p (2 * m)).toNat), w) := by
  intro m
  induction m with
  | zero =>
    intro p F hp hF
    obtain ⟨F, rfl⟩ : ∃ G, F = G + 1 := ⟨F - 1, by omega⟩
    rw [ff_rw_isOfPairs_2_f]
    unfold ff_rw_isOfPairs_2_b
    simp (disch := omega) only [u32_lit, sm_let_eq, sm_bind_some, sm_cI_some, sm_cV_some, sm_cL_some, sm_rd_u, sm_wr_u, u32_add, u32_mul, u32_sub, u32_le, u32_lt, u32_eq, u32_eq_neg, u32_neg_eq, u32_neg_neg, u32_le_neg, u32_neg_lt, u32_lt_neg, u32_neg_le, u10, u01, u3n0, u1n0, u4n0, n9_lt, n1_lt, n9_neg, n1_neg, if_true, if_false, if_pos, if_neg, ne_eq, not_true_eq_false, not_false_eq_true, hR.gI, hw, allW, Bool.toNat_true]
  | succ m ih =>
    intro p F hp hF
    obtain ⟨F, rfl⟩ : ∃ G, F = G + 1 := ⟨F - 1, by omega⟩
    rw [ff_rw_isOfPairs_2_f, show 2 * (m + 1) = 2 * m + 1 + 1 by omega, allW, allW]
    unfold ff_rw_isOfPairs_2_b
    have ih := ih (p + 2) F (by omega) (by omega)
    simp (disch := omega) only [u32_lit, sm_bind_some, hR.gI, hw, hR.fk, u32_add, u32_le, if_neg, hR.rds (show p < 40 by omega), hR.rds (show p + 1 < 40 by omega), ih]
    rcases wordOf_cases (w.1 (c + 1) p) with ⟨e, hb⟩ | ⟨x, e, hx, ex⟩
    · rw [e, ho_within_bad hb (by decide)]
      simp only [sm_cI_some, if_true]
      rfl
    · rw [e, ex, ho_within_good hx (by decide)]
      simp only [sm_cI_some, u10, if_false]
      rcases wordOf_cases (w.1 (c + 1) (p + 1)) with ⟨e2, hb⟩ | ⟨x2, e2, hx2, ex2⟩
      · rw [e2, ho_within_bad hb (by decide)]
        simp only [sm_cI_some, if_true]
        rfl
      · rw [e2, ex2, ho_within_good hx2 (by decide)]
        simp only [sm_cI_some, u10, if_false]
        exact ih
/-- the class's refusal of a row of words -/
theorem ho_refW {r most : Nat} {w : sm_Mem} {N : Nat} (hr : r < 6) (hmost : most ≤ 40) (h36 : w.1 36 0 = u32 N) (hN6 : N ≤ 6) : (N = 0 → ff_ho_refusalOfWords (u32 r) (u32 most) w = some (.int (-u32 4), w)) ∧ (0 < N → w.1 (2 + 2 * r) 1 = -u32 9 → ff_ho_refusalOfWords (u32 r) (u32 most) w = some (.int (-u32 3), wcRef 1 w)) ∧ ∀ n, n ≤ 40 → 0 < N → w.1 (2 + 2 * r) 1 = u32 n → (most < n → ff_ho_refusalOfWords (u32 r) (u32 most) w = some (.int (-u32 3), wcRef 5 w)) ∧ (n ≤ most → ff_ho_refusalOfWords (u32 r) (u32 most) w = if allW (w.1 (2 + 2 * r + 1)) 0 n = true then some (.int (u32 0), w) else some (.int (-u32 3), wcRef 3 w)) := by
  have hR := isRow_row hr
  refine ⟨fun h0 => ?_, fun h0 hc => ?_, fun n hn h0 hc => ⟨fun hm => ?_, fun hm => ?_⟩⟩
  · subst h0
    unfold ff_ho_refusalOfWords
    simp (disch := omega) only [u32_lit, ho_within_good hr, sm_cI_some, u10, if_false, h36, if_true]
  · unfold ff_ho_refusalOfWords
    simp (disch := omega) only [u32_lit, ho_within_good hr, sm_cI_some, u10, if_false, h36, u32_eq, if_neg, rr_row hr, sm_bind_some, hR.rc, rw_isMissing_none hR hc, td_refuse]
  · unfold ff_ho_refusalOfWords
    simp (disch := omega) only [u32_lit, ho_within_good hr, sm_cI_some, u10, if_false, h36, u32_eq, if_neg, rr_row hr, sm_bind_some, hR.rc, rw_isMissing_some hR (show n < 2147483648 by omega) hc, hR.gI, hc, u32_le, td_refuse, if_true]
  · have e : ff_rw_isOfWords (2 + 2 * r) w = some (.int (u32 (allW (w.1 (2 + 2 * r + 1)) 0 n).toNat), w) := by
      unfold ff_rw_isOfWords ff_rw_isOfWords_2
      rw [sm_N_eq]
      exact rw_words_loop hR hn hc n 0 1000000 (by omega) (by omega)
    unfold ff_ho_refusalOfWords
    simp (disch := omega) only [u32_lit, ho_within_good hr, sm_cI_some, u10, if_false, h36, u32_eq, if_neg, rr_row hr, sm_bind_some, hR.rc, rw_isMissing_some hR (show n < 2147483648 by omega) hc, hR.gI, hc, u32_le, if_pos, if_true, e, td_refuse]
    cases allW (w.1 (2 + 2 * r + 1)) 0 n <;> rfl
theorem ho_refP {r : Nat} {w : sm_Mem} {N : Nat} (hr : r < 6) (h36 : w.1 36 0 = u32 N) (hN6 : N ≤ 6) : (N = 0 → ff_ho_refusalOfPairs (u32 r) w = some (.int (-u32 4), w)) ∧ (0 < N → w.1 (2 + 2 * r) 1 = -u32 9 → ff_ho_refusalOfPairs (u32 r) w = some (.int (-u32 3), wcRef 1 w)) ∧ ∀ n, n ≤ 40 → 0 < N → w.1 (2 + 2 * r) 1 = u32 n → (¬ (n % 2 = 0 ∧ n ≤ 10) → ff_ho_refusalOfPairs (u32 r) w = some (.int (-u32 3), wcRef 5 w)) ∧ (n % 2 = 0 → n ≤ 10 → ff_ho_refusalOfPairs (u32 r) w = if allW (w.1 (2 + 2 * r + 1)) 0 n = true then some (.int (u32 0), w) else some (.int (-u32 3), wcRef 3 w)) := by
  have hR := isRow_row hr
  have hz : (u32 2 = u32 0) = False := eq_false (by decide)
  have e2 : ∀ n, n ≤ 40 → u32 n - u32 n / u32 2 * u32 2 = u32 (n % 2) := fun n hn => by
    simp (disch := omega) only [u32_div, u32_mul, u32_sub]
    rw [show n - n / 2 * 2 = n % 2 by omega]
  refine ⟨fun h0 => ?_, fun h0 hc => ?_, fun n hn h0 hc => ⟨fun hm => ?_, fun hm hm2 => ?_⟩⟩
  · subst h0
    unfold ff_ho_refusalOfPairs
    simp (disch := omega) only [u32_lit, ho_within_good hr, sm_cI_some, u10, if_false, h36, if_true]
  · unfold ff_ho_refusalOfPairs
    simp (disch := omega) only [u32_lit, ho_within_good hr, sm_cI_some, u10, if_false, h36, u32_eq, if_neg, rr_row hr, sm_bind_some, hR.rc, rw_isMissing_none hR hc, td_refuse]
  · unfold ff_ho_refusalOfPairs ff_ho_refusalOfPairs_73
    by_cases h2 : n % 2 = 0
    · simp (disch := omega) only [u32_lit, hz, ho_within_good hr, sm_cI_some, u10, if_false, h36, u32_eq, if_neg, rr_row hr, sm_bind_some, hR.rc, rw_isMissing_some hR (show n < 2147483648 by omega) hc, hR.gI, hc, e2 n hn, h2, u32_le, td_refuse, if_true]
    · simp (disch := omega) only [u32_lit, hz, ho_within_good hr, sm_cI_some, u10, if_false, h36, u32_eq, if_neg, rr_row hr, sm_bind_some, hR.rc, rw_isMissing_some hR (show n < 2147483648 by omega) hc, hR.gI, hc, e2 n hn, td_refuse, if_true]
  · have e : ff_rw_isOfPairs (2 + 2 * r) w = some (.int (u32 (allW (w.1 (2 + 2 * r + 1)) 0 n).toNat), w) := by
      unfold ff_rw_isOfPairs ff_rw_isOfPairs_2
      rw [sm_N_eq, u32_lit, rw_pairs_loop hR hn hc (n / 2) 0 1000000 (by omega) (by omega), show 2 * (n / 2) = n by omega]
    unfold ff_ho_refusalOfPairs
    simp (disch := omega) only [u32_lit, hz, ho_within_good hr, sm_cI_some, u10, if_false, h36, u32_eq, if_neg, rr_row hr, sm_bind_some, hR.rc, rw_isMissing_some hR (show n < 2147483648 by omega) hc, hR.gI, hc, e2 n hn, hm, u32_le, if_pos, if_true, e, td_refuse]
    cases allW (w.1 (2 + 2 * r + 1)) 0 n <;> rfl
