/-! pure: the law's house goes on like the class's; some deeds by a cell -/
theorem SC.fr {w w1 : sm_Mem} (ha : ∀ a, a < 36 → w1.1 a = w.1 a) (h : SC w) : SC w1 := by
  obtain ⟨h1, h2, h3⟩ := h
  refine ⟨fun r hr => ?_, fun r hr => ?_, fun k hk => ?_⟩
  · have := h1 r hr
    unfold SzOk at this ⊢
    rw [ha (2 + 2 * r) (by omega)]
    exact this
  · have := h2 r hr
    unfold SzOk at this ⊢
    rw [ha (15 + 2 * r) (by omega)]
    exact this
  · have := h3 k hk
    unfold KpOk at this ⊢
    rw [ha (24 + 4 * k) (by omega)]
    exact this
/-- all that lies outside the class's house: the law's house, rows, the first kept house, texts -/
def LO (wb w : sm_Mem) (B : HBase) (X : HX) : Prop := GV w B X ∧ SC w ∧ w.1 24 3 = u32 0 ∧ ∀ a, 14 ≤ a → a < 23 → w.1 a = wb.1 a
theorem LO.a {wb w w1 : sm_Mem} {B : HBase} {X : HX} (h : LO wb w B X) (ha : AFr w w1) : LO wb w1 B X := by
  obtain ⟨h1, h2, h3, h4⟩ := h
  exact ⟨h1.fr (ha 62 (by omega)) (ha 63 (by omega)), h2.fr (fun a h => ha a (Or.inl h)), by rw [ha 24 (by omega)]; exact h3, fun a a1 a2 => (ha a (by omega)).trans (h4 a a1 a2)⟩
theorem LO.b {wb w w1 : sm_Mem} {B : HBase} {X : HX} {r : Nat} (hr : r < 6) (h : LO wb w B X) (ha : BFr r w w1) (hs : SzOk w1 (2 + 2 * r) 40) : LO wb w1 B X := by
  obtain ⟨h1, ⟨h2, h5, h6⟩, h3, h4⟩ := h
  refine ⟨h1.fr (ha 62 (by omega) (by omega) (by omega)) (ha 63 (by omega) (by omega) (by omega)), ⟨fun q hq => ?_, fun q hq => ?_, fun q hq => ?_⟩, by rw [ha 24 (by omega) (by omega) (by omega)]; exact h3, fun a a1 a2 => (ha a (by omega) (by omega) (by omega)).trans (h4 a a1 a2)⟩
  · by_cases e : q = r
    · rw [e]; exact hs
    · have := h2 q hq
      unfold SzOk at this ⊢
      rw [ha (2 + 2 * q) (by omega) (by omega) (by omega)]
      exact this
  · have := h5 q hq
    unfold SzOk at this ⊢
    rw [ha (15 + 2 * q) (by omega) (by omega) (by omega)]
    exact this
  · have := h6 q hq
    unfold KpOk at this ⊢
    rw [ha (24 + 4 * q) (by omega) (by omega) (by omega)]
    exact this
theorem LO.w {wb w : sm_Mem} {B : HBase} {X : HX} {j : Nat} {x : Int32} (h : LO wb w B X) : LO wb (sm_wI w 64 j x) B X := by
  obtain ⟨h1, h2, h3, h4⟩ := h
  exact ⟨h1.fr (sm_wI_ne (by decide)) (sm_wI_ne (by decide)), h2.fr (fun a ha => sm_wI_ne (by omega)), by rw [sm_wI_ne (by decide)]; exact h3, fun a a1 a2 => (sm_wI_ne (by omega)).trans (h4 a a1 a2)⟩
theorem LO.l {wb w w1 : sm_Mem} {B : HBase} {X Y : HX} (h : LO wb w B X) (hg : GV w1 B Y) (ha : ∀ a, a ≠ 63 → w1.1 a = w.1 a) : LO wb w1 B Y := by
  obtain ⟨h1, h2, h3, h4⟩ := h
  exact ⟨hg, h2.fr (fun a h => ha a (by omega)), by rw [ha 24 (by decide)]; exact h3, fun a a1 a2 => (ha a (by omega)).trans (h4 a a1 a2)⟩
theorem la_say {w : sm_Mem} {B : HBase} {X : HX} {i x : Nat} (h : GV w B X) (hok : HOk X.1) (hn : hN X.1 = B.1) (hi : i < B.1) (h8 : (hO X.1).length < 8) (h0 : 0 < hB X.1 i) : ∃ w1, ff_la_say (u32 i) (u32 x) w = some (.int (u32 ((hO X.1).length + 1)), w1) ∧ GV w1 B (perfV B X (0, i, x)) ∧ (∀ a, a ≠ 63 → w1.1 a = w.1 a) ∧ w1.2 = w.2 := by
  obtain ⟨h1, h2, h3, h4, h5, h6⟩ := h
  have hn6 := hok.1
  have gb := (h2 i hi).2.2.2.2
  refine ⟨sm_wI (sm_wI (sm_wI (sm_wI w 63 (3 + (hO X.1).length) (u32 x)) 63 (11 + (hO X.1).length) (u32 i)) 63 (25 + i) (u32 (hB X.1 i - 1))) 63 1 (u32 ((hO X.1).length + 1)), ?_, ⟨?_, fun j hj => ?_, ?_, ?_, ?_, ?_, ?_, ?_⟩, fun a ha => ?_, rfl⟩
  · unfold ff_la_say
    simp (disch := omega) only [u32_lit, sm_let_eq, sm_bind_some, sm_cI_some, sm_cV_some, sm_cL_some, sm_rd_u, sm_wr_u, u32_add, u32_mul, u32_sub, u32_le, u32_lt, u32_eq, u32_eq_neg, u32_neg_eq, u32_neg_neg, u32_le_neg, u32_neg_lt, u32_lt_neg, u32_neg_le, u10, u01, u3n0, u1n0, u4n0, n9_lt, n1_lt, n9_neg, n1_neg, if_true, if_false, if_pos, if_neg, ne_eq, not_true_eq_false, not_false_eq_true, sm_wI_ne, sm_wI_nj, sm_wI_eq, sm_wA_ne, sm_wA_eq, h4, gb]
  · simp (disch := omega) only [sm_wI_ne, sm_wI_nj, sm_wI_eq, sm_wA_ne, sm_wA_eq]
    exact h1
  · obtain ⟨a1, a2, a3, a4, a5⟩ := h2 j hj
    refine ⟨?_, ?_, ?_, ?_, ?_⟩
    · simp (disch := omega) only [sm_wI_ne, sm_wI_nj, sm_wI_eq, sm_wA_ne, sm_wA_eq]; exact a1
    · simp (disch := omega) only [sm_wI_ne, sm_wI_nj, sm_wI_eq, sm_wA_ne, sm_wA_eq]; exact a2
    · simp (disch := omega) only [sm_wI_ne, sm_wI_nj, sm_wI_eq, sm_wA_ne, sm_wA_eq]; exact a3
    · simp (disch := omega) only [sm_wI_ne, sm_wI_nj, sm_wI_eq, sm_wA_ne, sm_wA_eq]; exact a4
    · show _ = u32 (updN (hB X.1) i (hB X.1 i - 1) j)
      unfold updN
      by_cases e : j = i
      · rw [if_pos e, e]
        simp (disch := omega) only [sm_wI_ne, sm_wI_nj, sm_wI_eq, sm_wA_ne, sm_wA_eq]
      · rw [if_neg e]
        simp (disch := omega) only [sm_wI_ne, sm_wI_nj, sm_wI_eq, sm_wA_ne, sm_wA_eq]
        exact a5
  · simp (disch := omega) only [sm_wI_ne, sm_wI_nj, sm_wI_eq, sm_wA_ne, sm_wA_eq]
    exact h3
  · simp (disch := omega) only [sm_wI_ne, sm_wI_nj, sm_wI_eq, sm_wA_ne, sm_wA_eq]
    rfl
  · simp (disch := omega) only [sm_wI_ne, sm_wI_nj, sm_wI_eq, sm_wA_ne, sm_wA_eq]
    exact h5
  · simp (disch := omega) only [sm_wI_ne, sm_wI_nj, sm_wI_eq, sm_wA_ne, sm_wA_eq]
  · simp (disch := omega) only [sm_wI_ne, sm_wI_nj, sm_wI_eq, sm_wA_ne, sm_wA_eq]
  · exact ordL_fr _ (by omega) (fun j a1 a2 a3 => by simp (disch := omega) only [sm_wI_ne, sm_wI_nj, sm_wI_eq, sm_wA_ne, sm_wA_eq]) h6
  · simp (disch := omega) only [sm_wI_ne, sm_wI_nj, sm_wI_eq, sm_wA_ne, sm_wA_eq]
theorem la_end {w : sm_Mem} {B : HBase} {X : HX} (h : GV w B X) : ∃ w1, ff_la_end w = some (.int (u32 (hO X.1).length), w1) ∧ GV w1 B (perfV B X (1, 0, 0)) ∧ (∀ a, a ≠ 63 → w1.1 a = w.1 a) ∧ w1.2 = w.2 := by
  obtain ⟨h1, h2, h3, h4, h5, h6⟩ := h
  refine ⟨sm_wI (sm_wI w 63 1 (u32 0)) 63 2 (u32 (X.2 + 1)), ?_, ⟨?_, fun j hj => ?_, ?_, ?_, ?_, trivial⟩, fun a ha => ?_, rfl⟩
  · unfold ff_la_end
    simp (disch := omega) only [u32_lit, sm_let_eq, sm_bind_some, sm_cI_some, sm_cV_some, sm_cL_some, sm_rd_u, sm_wr_u, u32_add, u32_mul, u32_sub, u32_le, u32_lt, u32_eq, u32_eq_neg, u32_neg_eq, u32_neg_neg, u32_le_neg, u32_neg_lt, u32_lt_neg, u32_neg_le, u10, u01, u3n0, u1n0, u4n0, n9_lt, n1_lt, n9_neg, n1_neg, if_true, if_false, if_pos, if_neg, ne_eq, not_true_eq_false, not_false_eq_true, sm_wI_ne, sm_wI_nj, sm_wI_eq, sm_wA_ne, sm_wA_eq, h4, h5]
  · simp (disch := omega) only [sm_wI_ne, sm_wI_nj, sm_wI_eq, sm_wA_ne, sm_wA_eq]
    exact h1
  · obtain ⟨a1, a2, a3, a4, a5⟩ := h2 j hj
    simp (disch := omega) only [sm_wI_ne, sm_wI_nj, sm_wI_eq, sm_wA_ne, sm_wA_eq]
    exact ⟨a1, a2, a3, a4, a5⟩
  · simp (disch := omega) only [sm_wI_ne, sm_wI_nj, sm_wI_eq, sm_wA_ne, sm_wA_eq]
    exact h3
  · simp (disch := omega) only [sm_wI_ne, sm_wI_nj, sm_wI_eq, sm_wA_ne, sm_wA_eq]
    rfl
  · simp (disch := omega) only [sm_wI_ne, sm_wI_nj, sm_wI_eq, sm_wA_ne, sm_wA_eq]
    rfl
  · simp (disch := omega) only [sm_wI_ne, sm_wI_nj, sm_wI_eq, sm_wA_ne, sm_wA_eq]
theorem la_hour_loop {B : HBase} {n hr : Nat} (hn6 : n ≤ 6) (hr9 : hr < 1000) : ∀ (m i F : Nat) (w : sm_Mem), i + m = n → m < F → w.1 62 0 = u32 n → (∀ j, j < n → w.1 62 (13 + j) = u32 (B.2.2.2.2 j)) → w.1 63 0 = u32 hr → ∃ w1, ff_la_hour_2_f F (u32 i) w = some (.int (u32 (hr + 1)), w1) ∧ w1.1 63 0 = u32 (hr + 1) ∧ (∀ j, i ≤ j → j < n → w1.1 63 (25 + j) = u32 (B.2.2.2.2 j)) ∧ (∀ j, 0 < j → (j < 25 + i ∨ 25 + n ≤ j) → w1.1 63 j = w.1 63 j) ∧ (∀ a, a ≠ 63 → w1.1 a = w.1 a) ∧ w1.2 = w.2 := by
  intro m
  induction m with
  | zero =>
    intro i F w hm hF hn hb h0
    obtain ⟨F, rfl⟩ : ∃ G, F = G + 1 := ⟨F - 1, by omega⟩
    refine ⟨sm_wI w 63 0 (u32 (hr + 1)), ?_, sm_wI_eq, fun j a b => absurd a (by omega), fun j a b => sm_wI_nj (by omega), fun a ha => sm_wI_ne ha, rfl⟩
    rw [ff_la_hour_2_f]
    unfold ff_la_hour_2_b
    simp (disch := omega) only [u32_lit, sm_let_eq, sm_bind_some, sm_cI_some, sm_cV_some, sm_cL_some, sm_rd_u, sm_wr_u, u32_add, u32_mul, u32_sub, u32_le, u32_lt, u32_eq, u32_eq_neg, u32_neg_eq, u32_neg_neg, u32_le_neg, u32_neg_lt, u32_lt_neg, u32_neg_le, u10, u01, u3n0, u1n0, u4n0, n9_lt, n1_lt, n9_neg, n1_neg, if_true, if_false, if_pos, if_neg, ne_eq, not_true_eq_false, not_false_eq_true, hn, h0, sm_wI_ne, sm_wI_nj, sm_wI_eq, sm_wA_ne, sm_wA_eq]
  | succ m ih =>
    intro i F w hm hF hn hb h0
    obtain ⟨F, rfl⟩ : ∃ G, F = G + 1 := ⟨F - 1, by omega⟩
    obtain ⟨w1, a1, a2, a3, a4, a5, a6⟩ := ih (i + 1) F (sm_wI w 63 (25 + i) (u32 (B.2.2.2.2 i))) (by omega) (by omega) (by rw [sm_wI_ne (by decide)]; exact hn) (fun j hj => by rw [sm_wI_ne (by decide)]; exact hb j hj) (by rw [sm_wI_nj (by omega)]; exact h0)
    refine ⟨w1, ?_, a2, fun j b1 b2 => ?_, fun j b1 b2 => ?_, fun a ha => by rw [a5 a ha, sm_wI_ne ha], a6⟩
    · rw [ff_la_hour_2_f]
      unfold ff_la_hour_2_b
      simp (disch := omega) only [u32_lit, hn, u32_le, if_neg, sm_rd_u, sm_wr_u, sm_bind_some, u32_add, hb i (by omega)]
      exact a1
    · by_cases e : j = i
      · rw [e, a4 _ (by omega) (by omega), sm_wI_eq]
      · exact a3 j (by omega) b2
    · rw [a4 j b1 (by omega), sm_wI_nj (by omega)]
theorem la_hour {w : sm_Mem} {B : HBase} {X : HX} (h : GV w B X) (hok : HOk X.1) (hn : hN X.1 = B.1) : ∃ w1, ff_la_hour w = some (.int (u32 (hH X.1 + 1)), w1) ∧ GV w1 B (perfV B X (2, 0, 0)) ∧ (∀ a, a ≠ 63 → w1.1 a = w.1 a) ∧ w1.2 = w.2 := by
  obtain ⟨h1, h2, h3, h4, h5, h6⟩ := h
  have hn6 := hok.1
  have h8 := hok.2.2.2.1
  obtain ⟨w1, a1, a2, a3, a4, a5, a6⟩ := la_hour_loop (B := B) (n := B.1) (hr := hH X.1) (by omega) hok.2.2.1 B.1 0 1000000 w (by omega) (by omega) h1 (fun j hj => (h2 j hj).2.2.1) h3
  refine ⟨w1, ?_, ⟨by rw [a5 62 (by decide)]; exact h1, fun j hj => ?_, a2, ?_, ?_, ?_⟩, a5, a6⟩
  · unfold ff_la_hour ff_la_hour_2
    rw [sm_N_eq, u32_lit]
    exact a1
  · obtain ⟨b1, b2, b3, b4, b5⟩ := h2 j hj
    rw [a5 62 (by decide), a4 (19 + j) (by omega) (by omega)]
    exact ⟨b1, b2, b3, b4, a3 j (Nat.zero_le _) hj⟩
  · rw [a4 1 (by omega) (by omega)]; exact h4
  · rw [a4 2 (by omega) (by omega)]; exact h5
  · exact ordL_fr _ h8 (fun j b1 b2 b3 => a4 j (by omega) (by omega)) h6
theorem la_walk {w : sm_Mem} {B : HBase} {X : HX} {i x : Nat} (h : GV w B X) (hok : HOk X.1) (hn : hN X.1 = B.1) (hi : i < B.1) : GV (sm_wI w 63 (19 + i) (u32 x)) B (perfV B X (3, i, x)) := by
  obtain ⟨h1, h2, h3, h4, h5, h6⟩ := h
  have hn6 := hok.1
  have h8 := hok.2.2.2.1
  refine ⟨?_, fun j hj => ?_, ?_, ?_, ?_, ?_⟩
  · simp (disch := omega) only [sm_wI_ne, sm_wI_nj, sm_wI_eq, sm_wA_ne, sm_wA_eq]
    exact h1
  · obtain ⟨a1, a2, a3, a4, a5⟩ := h2 j hj
    refine ⟨?_, ?_, ?_, ?_, ?_⟩
    · simp (disch := omega) only [sm_wI_ne, sm_wI_nj, sm_wI_eq, sm_wA_ne, sm_wA_eq]; exact a1
    · simp (disch := omega) only [sm_wI_ne, sm_wI_nj, sm_wI_eq, sm_wA_ne, sm_wA_eq]; exact a2
    · simp (disch := omega) only [sm_wI_ne, sm_wI_nj, sm_wI_eq, sm_wA_ne, sm_wA_eq]; exact a3
    · show _ = u32 (updN (hR X.1) i x j)
      unfold updN
      by_cases e : j = i
      · rw [if_pos e, e]
        simp (disch := omega) only [sm_wI_ne, sm_wI_nj, sm_wI_eq, sm_wA_ne, sm_wA_eq]
      · rw [if_neg e]
        simp (disch := omega) only [sm_wI_ne, sm_wI_nj, sm_wI_eq, sm_wA_ne, sm_wA_eq]
        exact a4
    · simp (disch := omega) only [sm_wI_ne, sm_wI_nj, sm_wI_eq, sm_wA_ne, sm_wA_eq]; exact a5
  · simp (disch := omega) only [sm_wI_ne, sm_wI_nj, sm_wI_eq, sm_wA_ne, sm_wA_eq]
    exact h3
  · simp (disch := omega) only [sm_wI_ne, sm_wI_nj, sm_wI_eq, sm_wA_ne, sm_wA_eq]
    exact h4
  · simp (disch := omega) only [sm_wI_ne, sm_wI_nj, sm_wI_eq, sm_wA_ne, sm_wA_eq]
    exact h5
  · exact ordL_fr _ h8 (fun j b1 b2 b3 => sm_wI_nj (by omega)) h6
theorem walk_l {a b : Nat} (ha : a < 6) (hb : b < 6) : (u32 0 ≤ u32 b - u32 a → u32 (if a ≤ b then b - a else a - b) = u32 b - u32 a) ∧ (¬ u32 0 ≤ u32 b - u32 a → u32 (if a ≤ b then b - a else a - b) = -(u32 b - u32 a)) := by
  have key : ∀ a, a < 6 → ∀ b, b < 6 → (u32 0 ≤ u32 b - u32 a → u32 (if a ≤ b then b - a else a - b) = u32 b - u32 a) ∧ (¬ u32 0 ≤ u32 b - u32 a → u32 (if a ≤ b then b - a else a - b) = -(u32 b - u32 a)) := by decide +kernel
  exact key a ha b hb
def SI (wb w : sm_Mem) (B : HBase) (ds : List Deed) : Prop := RHs w B ds ∧ LO wb w B (playV B ds) ∧ 0 < B.1
theorem stir_182 {wb w : sm_Mem} {B : HBase} {ds : List Deed} {self : Int32 → Int32 → Int32 → Int32 → sm_Mem → sm_R} {a3 a4 a6 : Int32} {i x : Nat} (h : SI wb w B ds) (hl : ds.length < 40) (hi : i < B.1) (hx : x < 6) : ∃ w1 ds1, ds1.length ≤ ds.length + 1 ∧ SI wb w1 B ds1 ∧ ff_la_stir_182 self a3 a4 (u32 1) a6 (u32 i) (u32 x) w = self a3 a4 (u32 1) (a6 + u32 1) w1 := by
  obtain ⟨h1, h2, h0⟩ := h
  obtain ⟨hok, hn, -, n6⟩ := h1.n
  have gr := (h2.1.2.1 i hi).2.2.2.1
  have r6 := (hok.2.1 i (by omega)).2.2.1
  unfold ff_la_stir_182
  simp (disch := omega) only [u32_lit, u32_add, sm_rd_u, sm_bind_some, gr, u32_eq]
  by_cases e : hR (playV B ds).1 i = x
  · rw [if_pos e]
    exact ⟨w, ds, by omega, ⟨h1, h2, h0⟩, rfl⟩
  · rw [if_neg e, sm_wr_u (by omega) (by omega), bs_]
    have hg := la_walk (x := x) h2.1 hok hn hi
    have h1' : RHs (sm_wI w 63 (19 + i) (u32 x)) B ds := h1.told (by omega)
    obtain ⟨w1, a1, a2, a3'⟩ := ch_walk h1' hl hi hx e
    have h2' : LO wb (sm_wI w 63 (19 + i) (u32 x)) B (playV B ((3, i, x) :: ds)) := h2.l hg (fun a ha => sm_wI_ne ha)
    obtain ⟨l1, l2⟩ := walk_l r6 hx
    refine ⟨w1, (3, i, x) :: ds, by rw [List.length_cons]; omega, ⟨a2, h2'.a (AFr.d a3'), h0⟩, ?_⟩
    simp only [n10, if_false]
    rw [a1, cI_]
    by_cases hq : u32 0 ≤ u32 x - u32 (hR (playV B ds).1 i)
    · rw [if_pos hq, l1 hq]
      unfold ff_la_stir_241
      rw [if_pos rfl]
      rfl
    · rw [if_neg hq, l2 hq]
      unfold ff_la_stir_241
      rw [if_pos rfl]
      rfl
theorem la_stir_loop {wb : sm_Mem} {B : HBase} {x : Int32} {n : Nat} (hn : n ≤ 3) : ∀ (m k F : Nat) (w : sm_Mem) (ds : List Deed), k + m = n → m < F → ds.length + m < 40 → SI wb w B ds → ∃ w1 ds1, ds1.length ≤ ds.length + m ∧ SI wb w1 B ds1 ∧ ff_la_stir_6_f F x (u32 n) (u32 1) (u32 k) w = some (.int (u32 1), w1) := by
  intro m
  induction m with
  | zero =>
    intro k F w ds hk hF hl h
    obtain ⟨F, rfl⟩ : ∃ G, F = G + 1 := ⟨F - 1, by omega⟩
    refine ⟨w, ds, by omega, h, ?_⟩
    rw [ff_la_stir_6_f]
    unfold ff_la_stir_6_b
    simp (disch := omega) only [u32_le, if_pos, rz_1]
  | succ m ih =>
    intro k F w ds hk hF hl h
    obtain ⟨F, rfl⟩ : ∃ G, F = G + 1 := ⟨F - 1, by omega⟩
    have key : ∀ (w' : sm_Mem) (ds' : List Deed), ds'.length ≤ ds.length + 1 → SI wb w' B ds' → ∃ w1 ds1, ds1.length ≤ ds.length + (m + 1) ∧ SI wb w1 B ds1 ∧ ff_la_stir_6_f F x (u32 n) (u32 1) (u32 k + u32 1) w' = some (.int (u32 1), w1) := by
      intro w' ds' h1 h2
      obtain ⟨w1, ds1, b1, b2, b3⟩ := ih (k + 1) F w' ds' (by omega) (by omega) (by omega) h2
      exact ⟨w1, ds1, by omega, b2, by rw [u32_add]; exact b3⟩
    have h' := h
    obtain ⟨h1, h2, h0⟩ := h
    obtain ⟨hok, hN', -, n6⟩ := h1.n
    obtain ⟨kb1, kb2⟩ := play_base (B := B) ds
    rw [ff_la_stir_6_f]
    unfold ff_la_stir_6_b
    simp (disch := omega) only [u32_lit, u32_le, if_neg, sm_rd_u, sm_bind_some, h2.1.1]
    generalize ((x >>> ((u32 3 * u32 k) &&& u32 31)) + (u32 7 * u32 k)) = y
    obtain ⟨i, hi, ei⟩ := la_low (y >>> (u32 2 &&& u32 31)) h0 (show B.1 < 2147483648 by omega)
    obtain ⟨v, hv, ev⟩ := la_low (y >>> (u32 5 &&& u32 31)) (show 0 < 6 by decide) (by decide)
    rw [ei, cI_, ev, cI_, la_can h2.1 hok hN' kb1 kb2 hi hv, cI_]
    cases hc : canV (playV B ds).1 i v with
    | true =>
      rw [if_neg (by decide)]
      obtain ⟨c1, c2, -⟩ := canV_n hc
      obtain ⟨w1, a1, a2, a3, a4⟩ := la_say (x := v) h2.1 hok hN' hi c2 c1
      rw [a1, cI_, if_neg (by decide)]
      have h1' : RHs w1 B ds := h1.fr (fun a b1 b2 => a3 a (by omega))
      obtain ⟨w2, b1, b2, b3⟩ := ch_say h1' (by omega) hi hv hc
      rw [b1, cI_, if_pos rfl]
      have h2' : LO wb w1 B (playV B ((0, i, v) :: ds)) := h2.l a2 a3
      exact key w2 ((0, i, v) :: ds) (by rw [List.length_cons]; omega) ⟨b2, h2'.a (AFr.d b3), h0⟩
    | false =>
      rw [if_pos (show u32 (false.toNat) = u32 0 from rfl)]
      have walk : ∃ w1 ds1, ds1.length ≤ ds.length + (m + 1) ∧ SI wb w1 B ds1 ∧ ff_la_stir_182 (ff_la_stir_6_f F) x (u32 n) (u32 1) (u32 k) (u32 i) (u32 v) w = some (.int (u32 1), w1) := by
        obtain ⟨w1, ds1, b1, b2, b3⟩ := stir_182 (self := ff_la_stir_6_f F) (a3 := x) (a4 := u32 n) (a6 := u32 k) h' (by omega) hi hv
        rw [b3]
        exact key w1 ds1 b1 b2
      by_cases y0 : (y &&& u32 3) = u32 0
      · rw [if_pos y0]
        obtain ⟨w1, a1, a2, a3, a4⟩ := la_hour h2.1 hok hN'
        rw [a1, cI_, if_neg (by decide)]
        have h1' : RHs w1 B ds := h1.fr (fun a b1 b2 => a3 a (by omega))
        obtain ⟨w2, b1, b2, b3⟩ := ch_hour h1' (by omega) (by omega)
        rw [b1, cI_, if_pos rfl]
        have h2' : LO wb w1 B (playV B ((2, 0, 0) :: ds)) := h2.l a2 a3
        exact key w2 ((2, 0, 0) :: ds) (by rw [List.length_cons]; omega) ⟨b2, h2'.a (AFr.d b3), h0⟩
      · rw [if_neg y0]
        by_cases y1 : (y &&& u32 3) = u32 1
        · rw [if_pos y1]
          have l8 := hok.2.2.2.1
          have g4 := h2.1.2.2.2.1
          rw [g4]
          by_cases z : (hO (playV B ds).1).length = 0
          · rw [if_pos (by rw [z]; exact Int32.le_refl _)]
            exact walk
          · rw [if_neg (by rw [u32_le (by omega) (by omega)]; omega)]
            obtain ⟨w1, a1, a2, a3, a4⟩ := la_end h2.1
            rw [a1, cI_, if_neg (by decide)]
            have h1' : RHs w1 B ds := h1.fr (fun a b1 b2 => a3 a (by omega))
            obtain ⟨w2, b1, b2, b3⟩ := ch_end h1' (by omega) z
            rw [b1, cI_, if_pos rfl]
            have h2' : LO wb w1 B (playV B ((1, 0, 0) :: ds)) := h2.l a2 a3
            exact key w2 ((1, 0, 0) :: ds) (by rw [List.length_cons]; omega) ⟨b2, h2'.a (AFr.d b3), h0⟩
        · rw [if_neg y1]
          exact walk
theorem la_stir {wb w : sm_Mem} {B : HBase} {ds : List Deed} {x : Int32} {n : Nat} (hn : n ≤ 3) (hl : ds.length + n < 40) (h : SI wb w B ds) : ∃ w1 ds1, ds1.length ≤ ds.length + n ∧ SI wb w1 B ds1 ∧ ff_la_stir x (u32 n) w = some (.int (u32 1), w1) := by
  obtain ⟨w1, ds1, b1, b2, b3⟩ := la_stir_loop (x := x) hn n 0 1000000 w ds (by omega) (by omega) hl h
  refine ⟨w1, ds1, b1, b2, ?_⟩
  unfold ff_la_stir ff_la_stir_6
  rw [sm_N_eq, u32_lit, u32_lit]
  exact b3
