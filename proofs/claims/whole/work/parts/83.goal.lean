/-! pure: what both refuse of a row of words or pairs; else it lies there alike -/
theorem bs_ {α : Type} {a : α} {f : α → sm_R} : Option.bind (some a) f = f a := (Eq.refl (f a)).trans (Eq.refl (f a))
theorem cI_ {x : Int32} {w : sm_Mem} {f : Int32 → sm_Mem → sm_R} : sm_cI (some (.int x, w)) f = f x w := (Eq.refl (f x w)).trans (Eq.refl (f x w))
theorem cL_ {x : Int64} {w : sm_Mem} {f : Int64 → sm_Mem → sm_R} : sm_cL (some (.long x, w)) f = f x w := (Eq.refl (f x w)).trans (Eq.refl (f x w))
theorem cV_ {w : sm_Mem} {f : sm_Mem → sm_R} : sm_cV (some (.null, w)) f = f w := (Eq.refl (f w)).trans (Eq.refl (f w))
theorem let_ {α : Type} {a : α} {f : α → sm_R} : sm_let a f = f a := (Eq.refl (f a)).trans (Eq.refl (f a))
def allW (g : Nat → Int32) : Nat → Nat → Bool
  | _, 0 => true
  | p, m + 1 => (wordOf (g p)).isSome && allW g (p + 1) m
theorem allW_congr {f g : Nat → Int32} : ∀ (m p : Nat), (∀ j, p ≤ j → j < p + m → f j = g j) → allW f p m = allW g p m
  | 0, _, _ => rfl
  | m + 1, p, h => by rw [allW, allW, h p (Nat.le_refl _) (by omega), allW_congr m (p + 1) (fun j a b => h j (by omega) (by omega))]
theorem allW_at {g : Nat → Int32} : ∀ (m p : Nat), allW g p m = true → ∀ j, p ≤ j → j < p + m → (g j).toInt.toNat < 6 ∧ g j = u32 (g j).toInt.toNat
  | 0, _, _, j, h1, h2 => absurd h1 (by omega)
  | m + 1, p, h, j, h1, h2 => by
    rw [allW, Bool.and_eq_true] at h
    by_cases e : j = p
    · subst e
      rcases wordOf_cases (g j) with ⟨e1, -⟩ | ⟨v, -, hv, ev⟩
      · rw [e1] at h; exact absurd h.1 (by decide)
      · have : (g j).toInt.toNat = v := by rw [ev, u32_toInt (by omega)]; omega
        rw [this]
        exact ⟨hv, ev⟩
    · exact allW_at m (p + 1) h.2 j (by omega) (by omega)
def glV (st : Nat) (g : Nat → Int32) (j : Nat) : Gl := ((g (st * j)).toInt.toNat, if st = 1 then none else some (g (st * j + 1)).toInt.toNat)
def glL (st : Nat) (g : Nat → Int32) (L : Nat) : List Gl := (List.range L).map (glV st g)
theorem glL_len {st L : Nat} {g : Nat → Int32} : (glL st g L).length = L := by
  unfold glL
  rw [List.length_map, List.length_range]
theorem glL_at {st L j : Nat} {g : Nat → Int32} {x : Gl} (h : (glL st g L)[j]? = some x) : j < L ∧ x = glV st g j := by
  unfold glL at h
  rw [List.getElem?_map] at h
  have hj : j < L := by
    by_cases hj : j < L
    · exact hj
    · rw [List.getElem?_eq_none (by rw [List.length_range]; omega)] at h
      cases h
  rw [List.getElem?_range hj] at h
  cases h
  exact ⟨hj, rfl⟩
theorem glV_at {st L j : Nat} {g : Nat → Int32} (hst : st = 1 ∨ st = 2) (h : allW g 0 (st * L) = true) (hj : j < L) : g (st * j) = u32 (glV st g j).1 ∧ (st = 1 → (glV st g j).2 = none) ∧ (st = 2 → g (2 * j + 1) = oAns (glV st g j).2) ∧ (glV st g j).1 < 6 ∧ ∀ q, (glV st g j).2 = some q → q < 6 := by
  rcases hst with rfl | rfl
  · obtain ⟨a1, a2⟩ := allW_at _ _ h (1 * j) (Nat.zero_le _) (by omega)
    refine ⟨a2, fun _ => rfl, fun h => absurd h (by decide), a1, fun q hq => ?_⟩
    unfold glV at hq
    rw [if_pos rfl] at hq
    cases hq
  · obtain ⟨a1, a2⟩ := allW_at _ _ h (2 * j) (Nat.zero_le _) (by omega)
    obtain ⟨b1, b2⟩ := allW_at _ _ h (2 * j + 1) (Nat.zero_le _) (by omega)
    refine ⟨a2, fun h => absurd h (by decide), fun _ => ?_, a1, fun q hq => ?_⟩
    · unfold glV
      rw [if_neg (by decide)]
      exact b2
    · unfold glV at hq
      rw [if_neg (by decide)] at hq
      cases hq
      exact b1
theorem rw_words_loop {c n : Nat} {w : sm_Mem} (hR : isRow c 40) (hn : n ≤ 40) (hw : w.1 c 1 = u32 n) : ∀ (m p F : Nat), p + m = n → m < F → ff_rw_isOfWords_2_f F c (u32 p) w = some (.int (u32 (allW (w.1 (c + 1)) p m).toNat), w) := by
  intro m
  induction m with
  | zero =>
    intro p F hp hF
    obtain ⟨F, rfl⟩ : ∃ G, F = G + 1 := ⟨F - 1, by omega⟩
    rw [ff_rw_isOfWords_2_f]
    unfold ff_rw_isOfWords_2_b
    simp (disch := omega) only [u32_lit, sm_let_eq, sm_bind_some, sm_cI_some, sm_cV_some, sm_cL_some, sm_rd_u, sm_wr_u, u32_add, u32_mul, u32_sub, u32_le, u32_lt, u32_eq, u32_eq_neg, u32_neg_eq, u32_neg_neg, u32_le_neg, u32_neg_lt, u32_lt_neg, u32_neg_le, u10, u01, u3n0, u1n0, u4n0, n9_lt, n1_lt, n9_neg, n1_neg, if_true, if_false, if_pos, if_neg, ne_eq, not_true_eq_false, not_false_eq_true, hR.gI, hw, allW, Bool.toNat_true]
  | succ m ih =>
    intro p F hp hF
    obtain ⟨F, rfl⟩ : ∃ G, F = G + 1 := ⟨F - 1, by omega⟩
    rw [ff_rw_isOfWords_2_f, allW]
    unfold ff_rw_isOfWords_2_b
    have ih := ih (p + 1) F (by omega) (by omega)
    simp (disch := omega) only [u32_lit, sm_bind_some, hR.gI, hw, hR.fk, u32_add, u32_le, if_neg, hR.rds (show p < 40 by omega), ih]
    rcases wordOf_cases (w.1 (c + 1) p) with ⟨e, hb⟩ | ⟨x, e, hx, ex⟩
    · rw [e, ho_within_bad hb (by decide)]
      simp only [sm_cI_some, if_true]
      rfl
    · rw [e, ex, ho_within_good hx (by decide)]
      simp only [sm_cI_some, u10, if_false]
      exact ih
theorem rw_pairs_loop {c n : Nat} {w : sm_Mem} (hR : isRow c 40) (hn : n ≤ 40) (hw : w.1 c 1 = u32 n) : ∀ (m p F : Nat), p + 2 * m = n → m < F → ff_rw_isOfPairs_2_f F c (u32 p) w = some (.int (u32 (allW (w.1 (c + 1)) p (2 * m)).toNat), w) := by
  intro m
  induction m with
  | zero =>
    intro p F hp hF
    obtain ⟨F, rfl⟩ : ∃ G, F = G + 1 := ⟨F - 1, by omega⟩
    rw [ff_rw_isOfPairs_2_f]
    unfold ff_rw_isOfPairs_2_b
    simp (disch := omega) only [u32_lit, sm_let_eq, sm_bind_some, sm_cI_some, sm_cV_some, sm_cL_some, sm_rd_u, sm_wr_u, u32_add, u32_mul, u32_sub, u32_le, u32_lt, u32_eq, u32_eq_neg, u32_neg_eq, u32_neg_neg, u32_le_neg, u32_neg_lt, u32_lt_neg, u32_neg_le, u10, u01, u3n0, u1n0, u4n0, n9_lt, n1_lt, n9_neg, n1_neg, if_true, if_false, if_pos, if_neg, ne_eq, not_true_eq_false, not_false_eq_true, hR.gI, hw, allW, Bool.toNat_true]
  | succ m ih =>
    intro p F hp hF
    obtain ⟨F, rfl⟩ : ∃ G, F = G + 1 := ⟨F - 1, by omega⟩
    rw [ff_rw_isOfPairs_2_f, show 2 * (m + 1) = 2 * m + 1 + 1 by omega, allW, allW]
    unfold ff_rw_isOfPairs_2_b
    have ih := ih (p + 2) F (by omega) (by omega)
    simp (disch := omega) only [u32_lit, sm_bind_some, hR.gI, hw, hR.fk, u32_add, u32_le, if_neg, hR.rds (show p < 40 by omega), hR.rds (show p + 1 < 40 by omega), ih]
    rcases wordOf_cases (w.1 (c + 1) p) with ⟨e, hb⟩ | ⟨x, e, hx, ex⟩
    · rw [e, ho_within_bad hb (by decide)]
      simp only [sm_cI_some, if_true]
      rfl
    · rw [e, ex, ho_within_good hx (by decide)]
      simp only [sm_cI_some, u10, if_false]
      rcases wordOf_cases (w.1 (c + 1) (p + 1)) with ⟨e2, hb⟩ | ⟨x2, e2, hx2, ex2⟩
      · rw [e2, ho_within_bad hb (by decide)]
        simp only [sm_cI_some, if_true]
        rfl
      · rw [e2, ex2, ho_within_good hx2 (by decide)]
        simp only [sm_cI_some, u10, if_false]
        exact ih
/-- what laying a goal leaves -/
def LFr (w w1 : sm_Mem) : Prop := (∀ a, a ≠ 62 → a ≠ 73 → a ≠ 74 → w1.1 a = w.1 a) ∧ (∀ j, j ≠ 21 → j ≠ 22 → j ≠ 23 → w1.1 62 j = w.1 62 j) ∧ w1.2 = w.2
theorem LFr.trans {w w1 w2 : sm_Mem} (h1 : LFr w w1) (h2 : LFr w1 w2) : LFr w w2 := ⟨fun a x y z => (h2.1 a x y z).trans (h1.1 a x y z), fun j a b c => (h2.2.1 j a b c).trans (h1.2.1 j a b c), h2.2.2.trans h1.2.2⟩
theorem LFr.w {w : sm_Mem} {a j : Nat} {x : Int32} (ha : a = 73 ∨ a = 74) : LFr w (sm_wI w a j x) := ⟨fun b _ h1 h2 => sm_wI_ne (by omega), fun i _ _ _ => by rw [sm_wI_ne (by omega)], rfl⟩
theorem LFr.s {w : sm_Mem} {j : Nat} {x : Int32} (hj : j = 21 ∨ j = 22 ∨ j = 23) : LFr w (sm_wI w 62 j x) := ⟨fun b h _ _ => sm_wI_ne h, fun i a b c => sm_wI_nj (by omega), rfl⟩
theorem mo_lay_loop {r n st L : Nat} {g : Nat → Int32} (hr : r < 6) (hst : st = 1 ∨ st = 2) (hL : st * L = n) (h5 : L ≤ 5) (hall : allW g 0 n = true) : ∀ (m k F : Nat) (w : sm_Mem), k + m = L → m < F → (∀ j, w.1 68 (40 * r + j) = g j) → w.1 62 21 = u32 L → (∀ j, j < k → w.1 73 j = u32 (glV st g j).1 ∧ w.1 74 j = oAns (glV st g j).2) → ∃ w1, ff_mo_layGoal_14_f F (u32 r) (u32 st) (u32 k) w = some (.null, w1) ∧ (∀ j, j < L → w1.1 73 j = u32 (glV st g j).1 ∧ w1.1 74 j = oAns (glV st g j).2) ∧ w1.1 62 21 = u32 L ∧ w1.1 62 22 = w.1 62 1 ∧ w1.1 62 23 = u32 0 ∧ LFr w w1 := by
  intro m
  induction m with
  | zero =>
    intro k F w hm hF hg h21 hj
    obtain ⟨F, rfl⟩ : ∃ G, F = G + 1 := ⟨F - 1, by omega⟩
    refine ⟨sm_wI (sm_wI w 62 22 (w.1 62 1)) 62 23 (u32 0), ?_, fun j hjl => by simp (disch := omega) only [sm_wI_ne, sm_wI_nj, sm_wI_eq, sm_wA_ne, sm_wA_eq]; exact hj j (by omega), by simp (disch := omega) only [sm_wI_ne, sm_wI_nj, sm_wI_eq, sm_wA_ne, sm_wA_eq]; exact h21, by simp (disch := omega) only [sm_wI_ne, sm_wI_nj, sm_wI_eq, sm_wA_ne, sm_wA_eq], sm_wI_eq, LFr.trans (LFr.s (by omega)) (LFr.s (by omega))⟩
    rw [ff_mo_layGoal_14_f]
    unfold ff_mo_layGoal_14_b
    simp (disch := omega) only [u32_lit, h21, u32_le, if_pos, sm_let_eq]
  | succ m ih =>
    intro k F w hm hF hg h21 hj
    obtain ⟨F, rfl⟩ : ∃ G, F = G + 1 := ⟨F - 1, by omega⟩
    obtain ⟨v1, v2, v3, v4, v5⟩ := glV_at hst (by rw [hL]; exact hall) (show k < L by omega)
    obtain ⟨w1, a1, a2, a3, a4, a5, a6⟩ := ih (k + 1) F (sm_wI (sm_wI w 73 k (u32 (glV st g k).1)) 74 k (oAns (glV st g k).2)) (by omega) (by omega) (fun j => by simp (disch := omega) only [sm_wI_ne, sm_wI_nj, sm_wI_eq, sm_wA_ne, sm_wA_eq]; exact hg j) (by simp (disch := omega) only [sm_wI_ne, sm_wI_nj, sm_wI_eq, sm_wA_ne, sm_wA_eq]; exact h21) (fun j hjk => by
      by_cases e : j = k
      · subst e
        simp (disch := omega) only [sm_wI_ne, sm_wI_nj, sm_wI_eq, sm_wA_ne, sm_wA_eq, and_self]
      · simp (disch := omega) only [sm_wI_ne, sm_wI_nj, sm_wI_eq, sm_wA_ne, sm_wA_eq]
        exact hj j (by omega))
    refine ⟨w1, ?_, a2, a3, by rw [a4]; simp (disch := omega) only [sm_wI_ne, sm_wI_nj, sm_wI_eq, sm_wA_ne, sm_wA_eq], a5, LFr.trans (LFr.trans (LFr.w (by omega)) (LFr.w (by omega))) a6⟩
    rw [ff_mo_layGoal_14_f]
    unfold ff_mo_layGoal_14_b ff_mo_layGoal_71
    rcases hst with rfl | rfl
    · rw [v2 rfl] at a1
      simp (disch := omega) only [u32_lit, h21, u32_le, if_neg, if_true, u32_add, u32_mul, sm_rd_u, sm_bind_some, hg, v1, sm_wr_u]
      exact a1
    · have e21 : (u32 2 = u32 1) = False := eq_false (by decide)
      simp (disch := omega) only [u32_lit, h21, u32_le, if_neg, e21, if_false, u32_add, u32_mul, sm_rd_u, sm_bind_some, Nat.add_assoc, hg, v1, sm_wr_u, sm_wI_ne, sm_wI_nj, sm_wI_eq, sm_wA_ne, sm_wA_eq, v3]
      exact a1
theorem MSe_of {w : sm_Mem} {H : HV} (h : MH w 0 H) : MSe w H := ⟨hN H, h.1, Nat.le_refl _, Nat.le_succ _, fun i hi => ⟨(h.2.1 i hi).1, (h.2.1 i hi).2.1⟩, fun i hi => by
  have := (h.2.1 i hi).2.2
  rw [Nat.zero_add] at this
  exact this, fun h => absurd h (Nat.lt_irrefl _), h.2.2.1, h.2.2.2.1, h.2.2.2.2⟩
theorem mo_layGoal {r n st L : Nat} {g : Nat → Int32} {w : sm_Mem} {H : HV} (hr : r < 6) (hst : st = 1 ∨ st = 2) (hL : st * L = n) (h5 : L ≤ 5) (hall : allW g 0 n = true) (hg : ∀ j, w.1 68 (40 * r + j) = g j) (hw : w.1 67 r = u32 n) (hH : MH w 0 H) (hok : HOk H) : ∃ w1, ff_mo_layGoal (u32 r) (u32 st) w = some (.null, w1) ∧ Srch w1 (glL st g L) H 0 ∧ LFr w w1 := by
  obtain ⟨w1, a1, a2, a3, a4, a5, a6⟩ := mo_lay_loop hr hst hL h5 hall L 0 1000000 (sm_wI w 62 21 (u32 L)) (by omega) (by omega) (fun j => by rw [sm_wI_ne (by decide)]; exact hg j) sm_wI_eq (fun j hj => absurd hj (Nat.not_lt_zero _))
  have hf : LFr w w1 := (LFr.s (by omega)).trans a6
  refine ⟨w1, ?_, ⟨by rw [glL_len]; exact h5, by rw [glL_len]; exact a3, by rw [a4, sm_wI_nj (by decide)]; exact hH.1, a5, by decide, hok, fun j x hx => ?_, MSe_fr (hf.2.1 1 (by decide) (by decide) (by decide)) (hf.2.1 24 (by decide) (by decide) (by decide)) (hf.1 63 (by decide) (by decide) (by decide)) (hf.1 64 (by decide) (by decide) (by decide)) (hf.1 65 (by decide) (by decide) (by decide)) (MSe_of hH) hok⟩, hf⟩
  · have hz : (u32 st = u32 0) = False := by
      rw [u32_eq (by omega) (by omega)]
      exact eq_false (by omega)
    have e : n / st = L := by rw [← hL]; exact Nat.mul_div_cancel_left _ (by omega)
    have hn : n ≤ 10 := by rcases hst with rfl | rfl <;> omega
    unfold ff_mo_layGoal ff_mo_layGoal_14
    simp (disch := omega) only [u32_lit, sm_rd_u, sm_bind_some, hw, hz, if_false, u32_div, e, sm_let_eq]
    rw [sm_N_eq]
    exact a1
  · obtain ⟨hj, rfl⟩ := glL_at hx
    obtain ⟨v1, v2, v3, v4, v5⟩ := glV_at hst (by rw [hL]; exact hall) hj
    exact ⟨(a2 j hj).1, (a2 j hj).2, v4, v5⟩
theorem mo_no_no {r n st : Nat} {w : sm_Mem} (hr : r < 6) (hn : n ≤ 40) (hw : w.1 67 r = u32 n) : ∀ (m p F : Nat), p + m = n → m < F → ff_mo_noGoal_62_f F (u32 r) (u32 st) (u32 0) (u32 (40 * r + p)) w = some (.int (-u32 3), wmRef 3 w) := by
  intro m
  induction m with
  | zero =>
    intro p F hp hF
    obtain ⟨F, rfl⟩ : ∃ G, F = G + 1 := ⟨F - 1, by omega⟩
    rw [ff_mo_noGoal_62_f]
    unfold ff_mo_noGoal_62_b
    simp (disch := omega) only [u32_lit, sm_rd_u, sm_bind_some, hw, u32_mul, u32_add, u32_le, if_pos, if_true, mo_find, sm_cI_some]
  | succ m ih =>
    intro p F hp hF
    obtain ⟨F, rfl⟩ : ∃ G, F = G + 1 := ⟨F - 1, by omega⟩
    have ih := ih (p + 1) F (by omega) (by omega)
    rw [← Nat.add_assoc] at ih
    rw [ff_mo_noGoal_62_f]
    unfold ff_mo_noGoal_62_b ff_mo_noGoal_99
    simp (disch := omega) only [u32_lit, sm_rd_u, sm_bind_some, hw, u32_mul, u32_add, u32_le, if_neg, if_true, ih]
theorem mo_no_loop {r n st : Nat} {w : sm_Mem} (hr : r < 6) (hn : n ≤ 40) (hw : w.1 67 r = u32 n) : ∀ (m p F : Nat), p + m = n → m < F → ff_mo_noGoal_62_f F (u32 r) (u32 st) (u32 1) (u32 (40 * r + p)) w = if allW (fun j => w.1 68 (40 * r + j)) p m = true then (sm_cV (ff_mo_layGoal (u32 r) (u32 st) w) fun w3 => some (.int (u32 0), w3)) else some (.int (-u32 3), wmRef 3 w) := by
  intro m
  induction m with
  | zero =>
    intro p F hp hF
    obtain ⟨F, rfl⟩ : ∃ G, F = G + 1 := ⟨F - 1, by omega⟩
    rw [ff_mo_noGoal_62_f, allW, if_pos rfl]
    unfold ff_mo_noGoal_62_b
    simp (disch := omega) only [u32_lit, sm_rd_u, sm_bind_some, hw, u32_mul, u32_add, u32_le, if_pos, u10, if_false]
  | succ m ih =>
    intro p F hp hF
    obtain ⟨F, rfl⟩ : ∃ G, F = G + 1 := ⟨F - 1, by omega⟩
    have hno := mo_no_no (st := st) hr hn hw m (p + 1) F (by omega) (by omega)
    have ih := ih (p + 1) F (by omega) (by omega)
    rw [← Nat.add_assoc] at ih hno
    rw [ff_mo_noGoal_62_f, allW]
    unfold ff_mo_noGoal_62_b ff_mo_noGoal_99
    simp (disch := omega) only [u32_lit, sm_rd_u, sm_bind_some, hw, u32_mul, u32_add, u32_le, if_neg, u10, if_false, hno, ih]
    rcases wordOf_cases (w.1 68 (40 * r + p)) with ⟨e, hb⟩ | ⟨x, e, hx, ex⟩
    · rw [e, mo_isWord_bad hb]
      simp only [sm_cI_some, if_true]
      rw [hno]
      rfl
    · rw [e, ex, mo_isWord_good hx]
      simp only [sm_cI_some, u10, if_false, Option.isSome_some, Bool.true_and]
      exact ih

/-- the class's refusal of a row of words -/
theorem ho_refW {r most : Nat} {w : sm_Mem} {N : Nat} (hr : r < 6) (hmost : most ≤ 40) (h36 : w.1 36 0 = u32 N) (hN6 : N ≤ 6) : (N = 0 → ff_ho_refusalOfWords (u32 r) (u32 most) w = some (.int (-u32 4), w)) ∧ (0 < N → w.1 (2 + 2 * r) 1 = -u32 9 → ff_ho_refusalOfWords (u32 r) (u32 most) w = some (.int (-u32 3), wcRef 1 w)) ∧ ∀ n, n ≤ 40 → 0 < N → w.1 (2 + 2 * r) 1 = u32 n → (most < n → ff_ho_refusalOfWords (u32 r) (u32 most) w = some (.int (-u32 3), wcRef 5 w)) ∧ (n ≤ most → ff_ho_refusalOfWords (u32 r) (u32 most) w = if allW (w.1 (2 + 2 * r + 1)) 0 n = true then some (.int (u32 0), w) else some (.int (-u32 3), wcRef 3 w)) := by
  have hR := isRow_row hr
  refine ⟨fun h0 => ?_, fun h0 hc => ?_, fun n hn h0 hc => ⟨fun hm => ?_, fun hm => ?_⟩⟩
  · subst h0
    unfold ff_ho_refusalOfWords
    simp (disch := omega) only [u32_lit, ho_within_good hr, sm_cI_some, u10, if_false, h36, if_true]
  · unfold ff_ho_refusalOfWords
    simp (disch := omega) only [u32_lit, ho_within_good hr, sm_cI_some, u10, if_false, h36, u32_eq, if_neg, rr_row hr, sm_bind_some, hR.rc, rw_isMissing_none hR hc, td_refuse]
  · unfold ff_ho_refusalOfWords
    simp (disch := omega) only [u32_lit, ho_within_good hr, sm_cI_some, u10, if_false, h36, u32_eq, if_neg, rr_row hr, sm_bind_some, hR.rc, rw_isMissing_some hR (show n < 2147483648 by omega) hc, hR.gI, hc, u32_le, td_refuse, if_true]
  · have e : ff_rw_isOfWords (2 + 2 * r) w = some (.int (u32 (allW (w.1 (2 + 2 * r + 1)) 0 n).toNat), w) := by
      unfold ff_rw_isOfWords ff_rw_isOfWords_2
      rw [sm_N_eq]
      exact rw_words_loop hR hn hc n 0 1000000 (by omega) (by omega)
    unfold ff_ho_refusalOfWords
    simp (disch := omega) only [u32_lit, ho_within_good hr, sm_cI_some, u10, if_false, h36, u32_eq, if_neg, rr_row hr, sm_bind_some, hR.rc, rw_isMissing_some hR (show n < 2147483648 by omega) hc, hR.gI, hc, u32_le, if_pos, if_true, e, td_refuse]
    cases allW (w.1 (2 + 2 * r + 1)) 0 n <;> rfl
theorem ho_refP {r : Nat} {w : sm_Mem} {N : Nat} (hr : r < 6) (h36 : w.1 36 0 = u32 N) (hN6 : N ≤ 6) : (N = 0 → ff_ho_refusalOfPairs (u32 r) w = some (.int (-u32 4), w)) ∧ (0 < N → w.1 (2 + 2 * r) 1 = -u32 9 → ff_ho_refusalOfPairs (u32 r) w = some (.int (-u32 3), wcRef 1 w)) ∧ ∀ n, n ≤ 40 → 0 < N → w.1 (2 + 2 * r) 1 = u32 n → (¬ (n % 2 = 0 ∧ n ≤ 10) → ff_ho_refusalOfPairs (u32 r) w = some (.int (-u32 3), wcRef 5 w)) ∧ (n % 2 = 0 → n ≤ 10 → ff_ho_refusalOfPairs (u32 r) w = if allW (w.1 (2 + 2 * r + 1)) 0 n = true then some (.int (u32 0), w) else some (.int (-u32 3), wcRef 3 w)) := by
  have hR := isRow_row hr
  have hz : (u32 2 = u32 0) = False := eq_false (by decide)
  have e2 : ∀ n, n ≤ 40 → u32 n - u32 n / u32 2 * u32 2 = u32 (n % 2) := fun n hn => by
    simp (disch := omega) only [u32_div, u32_mul, u32_sub]
    rw [show n - n / 2 * 2 = n % 2 by omega]
  refine ⟨fun h0 => ?_, fun h0 hc => ?_, fun n hn h0 hc => ⟨fun hm => ?_, fun hm hm2 => ?_⟩⟩
  · subst h0
    unfold ff_ho_refusalOfPairs
    simp (disch := omega) only [u32_lit, ho_within_good hr, sm_cI_some, u10, if_false, h36, if_true]
  · unfold ff_ho_refusalOfPairs
    simp (disch := omega) only [u32_lit, ho_within_good hr, sm_cI_some, u10, if_false, h36, u32_eq, if_neg, rr_row hr, sm_bind_some, hR.rc, rw_isMissing_none hR hc, td_refuse]
  · unfold ff_ho_refusalOfPairs ff_ho_refusalOfPairs_73
    by_cases h2 : n % 2 = 0
    · simp (disch := omega) only [u32_lit, hz, ho_within_good hr, sm_cI_some, u10, if_false, h36, u32_eq, if_neg, rr_row hr, sm_bind_some, hR.rc, rw_isMissing_some hR (show n < 2147483648 by omega) hc, hR.gI, hc, e2 n hn, h2, u32_le, td_refuse, if_true]
    · simp (disch := omega) only [u32_lit, hz, ho_within_good hr, sm_cI_some, u10, if_false, h36, u32_eq, if_neg, rr_row hr, sm_bind_some, hR.rc, rw_isMissing_some hR (show n < 2147483648 by omega) hc, hR.gI, hc, e2 n hn, td_refuse, if_true]
  · have e : ff_rw_isOfPairs (2 + 2 * r) w = some (.int (u32 (allW (w.1 (2 + 2 * r + 1)) 0 n).toNat), w) := by
      unfold ff_rw_isOfPairs ff_rw_isOfPairs_2
      rw [sm_N_eq, u32_lit, rw_pairs_loop hR hn hc (n / 2) 0 1000000 (by omega) (by omega), show 2 * (n / 2) = n by omega]
    unfold ff_ho_refusalOfPairs
    simp (disch := omega) only [u32_lit, hz, ho_within_good hr, sm_cI_some, u10, if_false, h36, u32_eq, if_neg, rr_row hr, sm_bind_some, hR.rc, rw_isMissing_some hR (show n < 2147483648 by omega) hc, hR.gI, hc, e2 n hn, hm, u32_le, if_pos, if_true, e, td_refuse]
    cases allW (w.1 (2 + 2 * r + 1)) 0 n <;> rfl
theorem mo_noGoal {r st : Nat} {w : sm_Mem} {N : Nat} (hr : r < 6) (hst : st = 1 ∨ st = 2) (h62 : w.1 62 1 = u32 N) (hN6 : N ≤ 6) : (N = 0 → ff_mo_noGoal (u32 r) (u32 st) w = some (.int (-u32 4), w)) ∧ (0 < N → w.1 67 r = -u32 1 → ff_mo_noGoal (u32 r) (u32 st) w = some (.int (-u32 3), wmRef 1 w)) ∧ ∀ n, n ≤ 40 → 0 < N → w.1 67 r = u32 n → (¬ (n % st = 0 ∧ n ≤ 5 * st) → ff_mo_noGoal (u32 r) (u32 st) w = some (.int (-u32 3), wmRef 5 w)) ∧ (n % st = 0 → n ≤ 5 * st → ff_mo_noGoal (u32 r) (u32 st) w = if allW (fun j => w.1 68 (40 * r + j)) 0 n = true then (sm_cV (ff_mo_layGoal (u32 r) (u32 st) w) fun w3 => some (.int (u32 0), w3)) else some (.int (-u32 3), wmRef 3 w)) := by
  have hz : (u32 st = u32 0) = False := by
    rw [u32_eq (by omega) (by omega)]
    exact eq_false (by omega)
  have e2 : ∀ n, n ≤ 40 → u32 n - u32 n / u32 st * u32 st = u32 (n % st) := fun n hn => by
    rcases hst with rfl | rfl
    · simp (disch := omega) only [u32_div, u32_mul, u32_sub]
      rw [show n - n / 1 * 1 = n % 1 by omega]
    · simp (disch := omega) only [u32_div, u32_mul, u32_sub]
      rw [show n - n / 2 * 2 = n % 2 by omega]
  refine ⟨fun h0 => ?_, fun h0 hc => ?_, fun n hn h0 hc => ⟨fun hm => ?_, fun hm hm2 => ?_⟩⟩
  · subst h0
    unfold ff_mo_noGoal
    simp (disch := omega) only [u32_lit, h62, if_true]
  · unfold ff_mo_noGoal
    simp (disch := omega) only [u32_lit, h62, u32_eq, if_neg, sm_rd_u, bs_, hc, n1_lt, if_false, mo_find, cI_]
  · unfold ff_mo_noGoal ff_mo_noGoal_48
    by_cases h2 : n % st = 0
    · have hm3 : ¬ n ≤ 5 * st := fun h => hm ⟨h2, h⟩
      simp (disch := omega) only [u32_lit, h62, u32_eq, if_neg, sm_rd_u, bs_, hc, u32_le, Nat.zero_le, if_true, hz, if_false, e2 n hn, h2, u32_mul, if_neg hm3, mo_find, cI_]
    · have hlt : n % st < 2147483648 := by rcases hst with rfl | rfl <;> omega
      simp (disch := omega) only [u32_lit, h62, u32_eq, if_neg, sm_rd_u, bs_, hc, u32_le, Nat.zero_le, if_true, hz, if_false, e2 n hn, u32_eq hlt (show 0 < 2147483648 by omega), if_neg h2, mo_find, cI_]
  · have e := mo_no_loop (st := st) hr hn hc n 0 1000000 (by omega) (by omega)
    rw [Nat.add_zero] at e
    unfold ff_mo_noGoal
    simp (disch := omega) only [u32_lit, h62, u32_eq, if_neg, sm_rd_u, bs_, hc, u32_le, Nat.zero_le, if_true, hz, if_false, e2 n hn, hm, u32_mul, if_pos hm2]
    unfold ff_mo_noGoal_62
    rw [sm_N_eq]
    exact e
def GoalB (cr : sm_Mem → sm_R) (r st : Nat) (w : sm_Mem) (H : HV) : Prop :=
  (cr w = some (.int (-u32 4), w) ∧ ff_mo_noGoal (u32 r) (u32 st) w = some (.int (-u32 4), w)) ∨
  (∃ f, f < 6 ∧ cr w = some (.int (-u32 3), wcRef f w) ∧ ff_mo_noGoal (u32 r) (u32 st) (wcRef f w) = some (.int (-u32 3), wmRef f (wcRef f w))) ∨
  (∃ gs : List Gl, gs.length ≤ 5 ∧ cr w = some (.int (u32 0), w) ∧ w.1 (2 + 2 * r) 1 = u32 (st * gs.length) ∧ (∀ j g, gs[j]? = some g → w.1 (2 + 2 * r + 1) (st * j) = u32 g.1 ∧ (st = 1 → g.2 = none) ∧ (st = 2 → w.1 (2 + 2 * r + 1) (2 * j + 1) = oAns g.2) ∧ g.1 < 6 ∧ ∀ q, g.2 = some q → q < 6) ∧ ∀ w', (∀ a, 62 ≤ a → a < 69 → w'.1 a = w.1 a) → ∃ w1, ff_mo_noGoal (u32 r) (u32 st) w' = some (.int (u32 0), w1) ∧ Srch w1 gs H 0 ∧ LFr w' w1)
theorem goal_both {cr : sm_Mem → sm_R} {r st : Nat} {w : sm_Mem} {B : HBase} {ds : List Deed} (hc : RC w) (hh : RHs w B ds) (hr : r < 6) (hst : st = 1 ∨ st = 2) (hcr : (B.1 = 0 → cr w = some (.int (-u32 4), w)) ∧ (0 < B.1 → w.1 (2 + 2 * r) 1 = -u32 9 → cr w = some (.int (-u32 3), wcRef 1 w)) ∧ ∀ n, n ≤ 40 → 0 < B.1 → w.1 (2 + 2 * r) 1 = u32 n → (¬ (n % st = 0 ∧ n ≤ 5 * st) → cr w = some (.int (-u32 3), wcRef 5 w)) ∧ (n % st = 0 → n ≤ 5 * st → cr w = if allW (w.1 (2 + 2 * r + 1)) 0 n = true then some (.int (u32 0), w) else some (.int (-u32 3), wcRef 3 w))) : GoalB cr r st w (playV B ds).1 := by
  obtain ⟨hok, hn, n1, n2, n6⟩ := hh.n
  obtain ⟨c1, c2, c3⟩ := hcr
  obtain ⟨m1, m2, m3⟩ := mo_noGoal hr hst n2 n6
  by_cases h0 : B.1 = 0
  · exact Or.inl ⟨c1 h0, m1 h0⟩
  have h0 : 0 < B.1 := by omega
  have hwr : ∀ f, (wcRef f w).1 62 1 = u32 B.1 := fun f => by rw [wcRef_ne (by decide) (by decide)]; exact n2
  rcases (hc.1 r hr).cases with ⟨hcc, hm⟩ | ⟨n, hn40, hcc, hm, he⟩
  · refine Or.inr (Or.inl ⟨1, by decide, c2 h0 hcc, ?_⟩)
    exact (mo_noGoal hr hst (hwr 1) n6).2.1 h0 (by rw [wcRef_ne (by decide) (by decide)]; exact hm)
  obtain ⟨d1, d2⟩ := c3 n hn40 h0 hcc
  by_cases hs : n % st = 0 ∧ n ≤ 5 * st
  · have eq : allW (w.1 (2 + 2 * r + 1)) 0 n = allW (fun j => w.1 68 (40 * r + j)) 0 n := allW_congr _ _ (fun j h1 h2 => he j (by omega))
    have d3 := d2 hs.1 hs.2
    cases ha : allW (w.1 (2 + 2 * r + 1)) 0 n with
    | false =>
      rw [ha, if_neg (by decide)] at d3
      refine Or.inr (Or.inl ⟨3, by decide, d3, ?_⟩)
      have := ((mo_noGoal hr hst (hwr 3) n6).2.2 n hn40 h0 (by rw [wcRef_ne (by decide) (by decide)]; exact hm)).2 hs.1 hs.2
      rw [this]
      have e68 : (wcRef 3 w).1 68 = w.1 68 := wcRef_ne (by decide) (by decide)
      rw [e68, ← eq, ha, if_neg (by decide)]
    | true =>
      rw [ha, if_pos rfl] at d3
      have hL : st * (n / st) = n := by rcases hst with rfl | rfl <;> omega
      have h5 : n / st ≤ 5 := by rcases hst with rfl | rfl <;> omega
      have hall : allW (fun j => w.1 68 (40 * r + j)) 0 n = true := by rw [← eq]; exact ha
      refine Or.inr (Or.inr ⟨glL st (fun j => w.1 68 (40 * r + j)) (n / st), by rw [glL_len]; exact h5, d3, by rw [glL_len, hL]; exact hcc, fun j g hj => ?_, fun w' hw' => ?_⟩)
      · obtain ⟨hjl, rfl⟩ := glL_at hj
        obtain ⟨v1, v2, v3, v4, v5⟩ := glV_at hst (by rw [hL]; exact hall) hjl
        have hjn : st * j < n ∧ (st = 2 → 2 * j + 1 < n) := by rcases hst with rfl | rfl <;> omega
        exact ⟨by rw [he _ hjn.1]; exact v1, v2, fun h => by rw [he _ (hjn.2 h)]; exact v3 h, v4, v5⟩
      · have e67 := hw' 67 (by omega) (by omega)
        have e68 := hw' 68 (by omega) (by omega)
        have := ((mo_noGoal (w := w') hr hst (by rw [hw' 62 (by omega) (by omega)]; exact n2) n6).2.2 n hn40 h0 (by rw [e67]; exact hm)).2 hs.1 hs.2
        rw [e68, hall, if_pos rfl] at this
        have hMH : MH w' 0 (playV B ds).1 := MH_fr hok (by rw [hw' 62 (by omega) (by omega)]) (hw' 64 (by omega) (by omega)) (hw' 65 (by omega) (by omega)) (fun j _ _ => by rw [hw' 63 (by omega) (by omega)]) hh.2.2.2.2.2.2.2.1.2.1.1
        obtain ⟨w1, a1, a2, a3⟩ := mo_layGoal (w := w') (n := n) hr hst hL h5 hall (fun j => by rw [e68]) (by rw [e67]; exact hm) hMH hok
        refine ⟨w1, ?_, a2, a3⟩
        rw [this, a1]
        rfl
  · refine Or.inr (Or.inl ⟨5, by decide, d1 hs, ?_⟩)
    exact ((mo_noGoal hr hst (hwr 5) n6).2.2 n hn40 h0 (by rw [wcRef_ne (by decide) (by decide)]; exact hm)).1 hs
theorem goal_words {r : Nat} {w : sm_Mem} {B : HBase} {ds : List Deed} (hc : RC w) (hh : RHs w B ds) (hr : r < 6) : GoalB (ff_ho_refusalOfWords (u32 r) (u32 5)) r 1 w (playV B ds).1 := by
  obtain ⟨hok, hn, n1, n2, n6⟩ := hh.n
  obtain ⟨a1, a2, a3⟩ := ho_refW (most := 5) hr (by omega) n1 n6
  refine goal_both hc hh hr (Or.inl rfl) ⟨a1, a2, fun n h1 h2 h3 => ⟨fun h4 => (a3 n h1 h2 h3).1 (by omega), fun h4 h5 => (a3 n h1 h2 h3).2 (by omega)⟩⟩
theorem goal_pairs {r : Nat} {w : sm_Mem} {B : HBase} {ds : List Deed} (hc : RC w) (hh : RHs w B ds) (hr : r < 6) : GoalB (ff_ho_refusalOfPairs (u32 r)) r 2 w (playV B ds).1 := by
  obtain ⟨hok, hn, n1, n2, n6⟩ := hh.n
  obtain ⟨a1, a2, a3⟩ := ho_refP hr n1 n6
  refine goal_both hc hh hr (Or.inr rfl) ⟨a1, a2, fun n h1 h2 h3 => ⟨fun h4 => (a3 n h1 h2 h3).1 (by omega), fun h4 h5 => (a3 n h1 h2 h3).2 h4 (by omega)⟩⟩
