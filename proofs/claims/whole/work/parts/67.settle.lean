/-! pure: house -/
def itOk (x : It) : Prop := x.1 < 6 ∧ x.2.1 < 64 ∧ x.2.2.1 < 6 ∧ x.2.2.2 ≤ 9
theorem psr_it {f : Nat → Int32} {n : Nat} : ∀ (m p : Nat) (it : List It), n ≤ p + m → it.length ≤ 6 → (∀ x, x ∈ it → itOk x) → (psr f n p it).2.length ≤ 6 ∧ ∀ x, x ∈ (psr f n p it).2 → itOk x := by
  intro m
  induction m with
  | zero =>
    intro p it hm h6 h
    rw [psr_end (by omega)]
    exact ⟨h6, h⟩
  | succ m ih =>
    intro p it hm h6 h
    by_cases hp : n ≤ p
    · rw [psr_end hp]
      exact ⟨h6, h⟩
    by_cases hb : f p = u32 32
    · rw [psr_blank (by omega) hb]
      exact ih (p + 1) it (by omega) h6 h
    by_cases hs : it.length = 6
    · rw [psr_seven (by omega) hb hs]
      exact ⟨h6, h⟩
    cases hx : pit f n p with
    | inl e =>
      rw [psr_bad (by omega) hb hs hx]
      exact ⟨h6, h⟩
    | inr x =>
      rw [psr_item (by omega) hb hs hx]
      obtain ⟨k, a, b, r, e, h1, h2, h3, h4, h5, g1, g2, g3, g4, g5, g6, g7, g8, g9⟩ := pit_ok hx
      refine ih (p + 5) _ (by omega) (by rw [List.length_append]; simp; omega) (fun y hy => ?_)
      rcases List.mem_append.mp hy with hy | hy
      · exact h y hy
      · have : y = x := by simpa using hy
        rw [this, h1]
        exact ⟨h3, by show 10 * a + b < 64; omega, by show r < 6; omega, g9⟩
theorem psr_stop {f : Nat → Int32} {n : Nat} {items : List It} : ∀ (m p : Nat) (it : List It), n ≤ p + m → (n < p + 5 ∨ it.length = 6) → psr f n p it = (none, items) → items = it := by
  intro m
  induction m with
  | zero =>
    intro p it hm hs h
    rw [psr_end (by omega)] at h
    exact (Prod.mk.inj h).2.symm
  | succ m ih =>
    intro p it hm hs h
    by_cases hp : n ≤ p
    · rw [psr_end hp] at h
      exact (Prod.mk.inj h).2.symm
    by_cases hb : f p = u32 32
    · rw [psr_blank (by omega) hb] at h
      exact ih (p + 1) it (by omega) (by omega) h
    by_cases h6 : it.length = 6
    · rw [psr_seven (by omega) hb h6] at h
      cases h
    cases hx : pit f n p with
    | inl e =>
      rw [psr_bad (by omega) hb h6 hx] at h
      cases h
    | inr x =>
      obtain ⟨k, a, b, r, e, h1, h2, h3, h4, -⟩ := pit_ok hx
      omega
def dIt : It := (0, 0, 0, 0)
def baseOf (it : List It) : HBase := (it.length, fun i => (it.getD i dIt).1, fun i => (it.getD i dIt).2.1, fun i => (it.getD i dIt).2.2.1, fun i => (it.getD i dIt).2.2.2)
theorem baseOf_ok {it : List It} (h6 : it.length ≤ 6) (h : ∀ x, x ∈ it → itOk x) : BOk (baseOf it) := by
  refine ⟨h6, fun i hi => ?_⟩
  have hi : i < it.length := hi
  have e : it.getD i dIt = it[i] := by rw [List.getD_eq_getElem?_getD, List.getElem?_eq_getElem hi]; rfl
  have := h it[i] (List.getElem_mem hi)
  show (it.getD i dIt).1 < 6 ∧ (it.getD i dIt).2.1 < 64 ∧ (it.getD i dIt).2.2.1 < 6 ∧ (it.getD i dIt).2.2.2 ≤ 9
  rw [e]
  exact this
/-- the class's rows of the speakers hold what was read -/
def SetC (w : sm_Mem) (it : List It) : Prop := w.1 36 0 = u32 it.length ∧ ∀ i x, it[i]? = some x → w.1 37 i = u32 x.1 ∧ w.1 38 i = u32 x.2.1 ∧ w.1 39 i = u32 x.2.2.1 ∧ w.1 40 i = u32 x.2.2.2
theorem hs_figure {c q d : Nat} {w : sm_Mem} (hR : isRow c 60) (hq : q < 60) (h : w.1 (c + 1) q = u32 (48 + d)) : ff_hs_figure c (u32 q) w = some (.int (u32 d), w) := by
  unfold ff_hs_figure
  simp (disch := omega) only [u32_lit, sm_let_eq, sm_bind_some, sm_cI_some, sm_cV_some, sm_cL_some, sm_rd_u, sm_wr_u, u32_add, u32_mul, u32_sub, u32_le, u32_lt, u32_eq, u32_eq_neg, u32_neg_eq, u32_neg_neg, u32_le_neg, u32_neg_lt, u32_lt_neg, u32_neg_le, u10, u01, u3n0, u1n0, u4n0, n9_lt, n1_lt, n9_neg, n1_neg, if_true, if_false, if_pos, if_neg, ne_eq, not_true_eq_false, not_false_eq_true, hR.fk, hR.rds hq, h]
  rw [show 48 + d - 48 = d by omega]
theorem hs_settle_loop {c n : Nat} {items : List It} (hR : isRow c 60) (hc : c < 30) (hn : n ≤ 60) : ∀ (m p F : Nat) (it : List It) (w : sm_Mem), n ≤ p + m → m < F → it.length ≤ 6 → w.1 c 1 = u32 n → SetC w it → psr (w.1 (c + 1)) n p it = (none, items) → p ≤ 60 → ∃ w1, ff_hs_settle_7_f F c (u32 p) w = ff_hs_settle_136 w1 ∧ SetC w1 items ∧ (∀ a, (a < 36 ∨ 40 < a) → w1.1 a = w.1 a) ∧ w1.2 = w.2 := by
  intro m
  induction m using Nat.strongRecOn with
  | ind m ih =>
    intro p F it w hm hF h6 hw hS hp hp60
    obtain ⟨F, rfl⟩ : ∃ G, F = G + 1 := ⟨F - 1, by omega⟩
    by_cases hsh : n < p + 5
    · have e := psr_stop m p it hm (Or.inl hsh) hp
      subst e
      refine ⟨w, ?_, hS, fun _ _ => rfl, rfl⟩
      rw [ff_hs_settle_7_f]
      unfold ff_hs_settle_7_b
      simp (disch := omega) only [u32_lit, sm_let_eq, sm_bind_some, sm_cI_some, sm_cV_some, sm_cL_some, sm_rd_u, sm_wr_u, u32_add, u32_mul, u32_sub, u32_le, u32_lt, u32_eq, u32_eq_neg, u32_neg_eq, u32_neg_neg, u32_le_neg, u32_neg_lt, u32_lt_neg, u32_neg_le, u10, u01, u3n0, u1n0, u4n0, n9_lt, n1_lt, n9_neg, n1_neg, if_true, if_false, if_pos, if_neg, ne_eq, not_true_eq_false, not_false_eq_true, hR.gI, hw]
    by_cases hl6 : it.length = 6
    · have e := psr_stop m p it hm (Or.inr hl6) hp
      subst e
      refine ⟨w, ?_, hS, fun _ _ => rfl, rfl⟩
      rw [ff_hs_settle_7_f]
      unfold ff_hs_settle_7_b
      simp (disch := omega) only [u32_lit, sm_let_eq, sm_bind_some, sm_cI_some, sm_cV_some, sm_cL_some, sm_rd_u, sm_wr_u, u32_add, u32_mul, u32_sub, u32_le, u32_lt, u32_eq, u32_eq_neg, u32_neg_eq, u32_neg_neg, u32_le_neg, u32_neg_lt, u32_lt_neg, u32_neg_le, u10, u01, u3n0, u1n0, u4n0, n9_lt, n1_lt, n9_neg, n1_neg, if_true, if_false, if_pos, if_neg, ne_eq, not_true_eq_false, not_false_eq_true, hR.gI, hw, hS.1, hl6]
    by_cases hb : w.1 (c + 1) p = u32 32
    · rw [psr_blank (by omega) hb] at hp
      obtain ⟨w1, a1, a2⟩ := ih (m - 1) (by omega) (p + 1) F it w (by omega) (by omega) h6 hw hS hp (by omega)
      refine ⟨w1, ?_, a2⟩
      rw [ff_hs_settle_7_f]
      unfold ff_hs_settle_7_b
      simp (disch := omega) only [u32_lit, sm_bind_some, u32_add, u32_lt, u32_le, if_neg, hR.gI, hw, hS.1, hR.fk, hR.rds (show p < 60 by omega), hb, if_true]
      exact a1
    cases hx : pit (w.1 (c + 1)) n p with
    | inl e => rw [psr_bad (by omega) hb hl6 hx] at hp; cases hp
    | inr x =>
      obtain ⟨k, a, b, r, e, g0, g1, g2, g3, g4, g5, g6, g7, b1, b2, b3, b4, b5, b6⟩ := pit_ok hx
      rw [psr_item (by omega) hb hl6 hx] at hp
      have hlt : it.length < 6 := by omega
      have hS2 : SetC (sm_wI (sm_wI (sm_wI (sm_wI (sm_wI w 37 it.length (u32 k)) 38 it.length (u32 (10 * a + b))) 39 it.length (u32 r)) 40 it.length (u32 e)) 36 0 (u32 (it.length + 1))) (it ++ [x]) := by
        refine ⟨?_, fun i y hy => ?_⟩
        · rw [sm_wI_eq, List.length_append]
          rfl
        · by_cases hi : i < it.length
          · rw [List.getElem?_append_left hi] at hy
            simp (disch := omega) only [sm_wI_ne, sm_wI_nj, sm_wI_eq, sm_wA_ne, sm_wA_eq]
            exact hS.2 i y hy
          · rw [List.getElem?_append_right (by omega)] at hy
            have : i - it.length = 0 := by
              have := (List.getElem?_eq_some_iff.mp hy).1
              simp at this
              omega
            rw [this] at hy
            cases hy
            have ei : i = it.length := by omega
            subst ei
            rw [g0]
            simp (disch := omega) only [sm_wI_ne, sm_wI_nj, sm_wI_eq, sm_wA_ne, sm_wA_eq, and_self]
      obtain ⟨w1, a1, a2, a3, a4⟩ := ih (m - 5) (by omega) (p + 5) F (it ++ [x]) _ (by omega) (by omega) (by rw [List.length_append]; simp; omega) (by simp (disch := omega) only [sm_wI_ne, sm_wI_nj, sm_wI_eq, sm_wA_ne, sm_wA_eq]; exact hw) hS2 (by simp (disch := omega) only [sm_wI_ne, sm_wI_nj, sm_wI_eq, sm_wA_ne, sm_wA_eq]; exact hp) (by omega)
      refine ⟨w1, ?_, a2, fun q hq => ?_, a4⟩
      · rw [ff_hs_settle_7_f]
        unfold ff_hs_settle_7_b
        have f1 : ∀ w', w'.1 (c + 1) = w.1 (c + 1) → ff_hs_figure c (u32 (p + 1)) w' = some (.int (u32 a), w') := fun w' h' => hs_figure hR (by omega) (by rw [h']; exact g4)
        have f2 : ∀ w', w'.1 (c + 1) = w.1 (c + 1) → ff_hs_figure c (u32 (p + 2)) w' = some (.int (u32 b), w') := fun w' h' => hs_figure hR (by omega) (by rw [h']; exact g5)
        have f3 : ∀ w', w'.1 (c + 1) = w.1 (c + 1) → ff_hs_figure c (u32 (p + 3)) w' = some (.int (u32 r), w') := fun w' h' => hs_figure hR (by omega) (by rw [h']; exact g6)
        have f4 : ∀ w', w'.1 (c + 1) = w.1 (c + 1) → ff_hs_figure c (u32 (p + 4)) w' = some (.int (u32 e), w') := fun w' h' => hs_figure hR (by omega) (by rw [h']; exact g7)
        simp (disch := omega) only [u32_lit, sm_bind_some, u32_add, u32_lt, u32_le, if_neg, hR.gI, hw, hS.1, hR.fk, hR.rds (show p < 60 by omega), hb, if_false, ho_kindOf, g1, fAns, sm_cI_some, sm_wr_u]
        rw [f1 _ (by simp (disch := omega) only [sm_wI_ne, sm_wI_nj, sm_wI_eq, sm_wA_ne, sm_wA_eq])]
        simp (disch := omega) only [sm_cI_some]
        rw [f2 _ (by simp (disch := omega) only [sm_wI_ne, sm_wI_nj, sm_wI_eq, sm_wA_ne, sm_wA_eq])]
        simp (disch := omega) only [sm_cI_some, u32_mul, u32_add, sm_wI_ne, sm_wI_nj, sm_wI_eq, sm_wA_ne, sm_wA_eq, hS.1, sm_wr_u, sm_bind_some]
        rw [f3 _ (by simp (disch := omega) only [sm_wI_ne, sm_wI_nj, sm_wI_eq, sm_wA_ne, sm_wA_eq])]
        simp (disch := omega) only [sm_cI_some, sm_wI_ne, sm_wI_nj, sm_wI_eq, sm_wA_ne, sm_wA_eq, hS.1, sm_wr_u, sm_bind_some]
        rw [f4 _ (by simp (disch := omega) only [sm_wI_ne, sm_wI_nj, sm_wI_eq, sm_wA_ne, sm_wA_eq])]
        simp (disch := omega) only [sm_cI_some, sm_wI_ne, sm_wI_nj, sm_wI_eq, sm_wA_ne, sm_wA_eq, hS.1, sm_wr_u, sm_bind_some, sm_let_eq, u32_add]
        exact a1
      · rw [a3 q hq]
        simp (disch := omega) only [sm_wI_ne, sm_wI_nj, sm_wI_eq, sm_wA_ne, sm_wA_eq]
theorem hs_settle {c n : Nat} {items : List It} {w : sm_Mem} (hR : isRow c 60) (hc : c < 30) (hn : n ≤ 60) (hw : w.1 c 1 = u32 n) (hp : psr (w.1 (c + 1)) n 0 [] = (none, items)) : ∃ w1, ff_hs_settle c w = some (.null, w1) ∧ CHX w1 (playV (baseOf items) []) ∧ CB w1 (baseOf items) ∧ CD w1 45 [] ∧ (∀ a, (a < 36 ∨ 45 < a) → w1.1 a = w.1 a) ∧ w1.2 = w.2 := by
  obtain ⟨l6, lok⟩ := psr_it (f := w.1 (c + 1)) (n := n) n 0 [] (by omega) (by simp) (fun x hx => by cases hx)
  rw [hp] at l6 lok
  have hB := baseOf_ok l6 lok
  obtain ⟨w1, a1, a2, a3, a4⟩ := hs_settle_loop (items := items) hR hc hn n 0 1000000 [] (sm_wI w 36 0 (u32 0)) (by omega) (by omega) (by simp) (by simp (disch := omega) only [sm_wI_ne, sm_wI_nj, sm_wI_eq, sm_wA_ne, sm_wA_eq]; exact hw) ⟨sm_wI_eq, fun i x hx => by simp at hx⟩ (by simp (disch := omega) only [sm_wI_ne, sm_wI_nj, sm_wI_eq, sm_wA_ne, sm_wA_eq]; exact hp) (by omega)
  have hit : ∀ i, i < items.length → items[i]? = some (items.getD i dIt) := fun i hi => by rw [List.getD_eq_getElem?_getD, List.getElem?_eq_getElem hi]; rfl
  obtain ⟨w2, b1, b2, b3, b4, b5⟩ := hs_goBackTo (B := baseOf items) (ds := []) (n := 0) (w := w1) hB (by simp) trivial (Nat.le_refl _) a2.1 (fun i hi => ⟨(a2.2 i _ (hit i hi)).1, (a2.2 i _ (hit i hi)).2.1⟩) (fun i hi => ⟨(a2.2 i _ (hit i hi)).2.2.1, (a2.2 i _ (hit i hi)).2.2.2⟩) trivial
  refine ⟨w2, ?_, b2, fun i hi => ?_, ⟨b3, trivial⟩, fun a ha => ?_, b5.trans a4⟩
  · unfold ff_hs_settle ff_hs_settle_7
    simp only [u32_lit, sm_let_eq]
    rw [sm_N_eq, a1]
    unfold ff_hs_settle_136
    rw [u32_lit, b1]
    rfl
  · rw [b4 39 (by omega), b4 40 (by omega)]
    exact ⟨(a2.2 i _ (hit i hi)).2.2.1, (a2.2 i _ (hit i hi)).2.2.2⟩
  · rw [b4 a (by omega), a3 a (by omega), sm_wI_ne (by omega)]
/-! the reference's house -/
theorem mo_house_zero : ∀ (m i F : Nat) (w : sm_Mem), i + m = 1272 → m < F → ∃ w1, ff_mo_house_39_f F (u32 i) w = ff_mo_house_69 (u32 0) (sm_wI w1 62 1 (w1.1 62 18)) ∧ (∀ j, i ≤ j → j < 1272 → w1.1 63 j = u32 0) ∧ QFr (fun j => j < i) w w1 := by
  intro m
  induction m with
  | zero =>
    intro i F w hm hF
    obtain ⟨F, rfl⟩ : ∃ G, F = G + 1 := ⟨F - 1, by omega⟩
    refine ⟨w, ?_, fun j a b => absurd a (by omega), QFr.refl⟩
    rw [ff_mo_house_39_f]
    unfold ff_mo_house_39_b
    simp (disch := omega) only [u32_lit, sm_let_eq, sm_bind_some, sm_cI_some, sm_cV_some, sm_cL_some, sm_rd_u, sm_wr_u, u32_add, u32_mul, u32_sub, u32_le, u32_lt, u32_eq, u32_eq_neg, u32_neg_eq, u32_neg_neg, u32_le_neg, u32_neg_lt, u32_lt_neg, u32_neg_le, u10, u01, u3n0, u1n0, u4n0, n9_lt, n1_lt, n9_neg, n1_neg, if_true, if_false, if_pos, if_neg, ne_eq, not_true_eq_false, not_false_eq_true]
  | succ m ih =>
    intro i F w hm hF
    obtain ⟨F, rfl⟩ : ∃ G, F = G + 1 := ⟨F - 1, by omega⟩
    obtain ⟨w1, a1, a2, a3⟩ := ih (i + 1) F (sm_wI w 63 i (u32 0)) (by omega) (by omega)
    refine ⟨w1, ?_, fun j b1 b2 => ?_, QFr.trans (QFr.wI (by omega)) (a3.imp (fun j hj => by omega))⟩
    · rw [ff_mo_house_39_f]
      unfold ff_mo_house_39_b
      simp (disch := omega) only [u32_lit, sm_let_eq, sm_bind_some, sm_cI_some, sm_cV_some, sm_cL_some, sm_rd_u, sm_wr_u, u32_add, u32_mul, u32_sub, u32_le, u32_lt, u32_eq, u32_eq_neg, u32_neg_eq, u32_neg_neg, u32_le_neg, u32_neg_lt, u32_lt_neg, u32_neg_le, u10, u01, u3n0, u1n0, u4n0, n9_lt, n1_lt, n9_neg, n1_neg, if_true, if_false, if_pos, if_neg, ne_eq, not_true_eq_false, not_false_eq_true]
      exact a1
    · by_cases hj : j = i
      · subst hj
        rw [a3.2.1 _ (by omega), sm_wI_eq]
      · exact a2 j (by omega) b2
theorem mo_house_kept : ∀ (m i F : Nat) (w : sm_Mem), i + m = 4 → m < F → 1 ≤ i → ∃ w1, ff_mo_house_165_f F (u32 i) w = some (.int (w.1 62 1), w1) ∧ (∀ k, i ≤ k → k < 4 → w1.1 63 (1272 * k) = -u32 1) ∧ QFr (fun j => j < 1272 * i) w w1 := by
  intro m
  induction m with
  | zero =>
    intro i F w hm hF h1
    obtain ⟨F, rfl⟩ : ∃ G, F = G + 1 := ⟨F - 1, by omega⟩
    refine ⟨w, ?_, fun j a b => absurd a (by omega), QFr.refl⟩
    rw [ff_mo_house_165_f]
    unfold ff_mo_house_165_b
    simp (disch := omega) only [u32_lit, sm_let_eq, sm_bind_some, sm_cI_some, sm_cV_some, sm_cL_some, sm_rd_u, sm_wr_u, u32_add, u32_mul, u32_sub, u32_le, u32_lt, u32_eq, u32_eq_neg, u32_neg_eq, u32_neg_neg, u32_le_neg, u32_neg_lt, u32_lt_neg, u32_neg_le, u10, u01, u3n0, u1n0, u4n0, n9_lt, n1_lt, n9_neg, n1_neg, if_true, if_false, if_pos, if_neg, ne_eq, not_true_eq_false, not_false_eq_true]
  | succ m ih =>
    intro i F w hm hF h1
    obtain ⟨F, rfl⟩ : ∃ G, F = G + 1 := ⟨F - 1, by omega⟩
    obtain ⟨w1, a1, a2, a3⟩ := ih (i + 1) F (sm_wI w 63 (1272 * i + 0) (-u32 1)) (by omega) (by omega) (by omega)
    refine ⟨w1, ?_, fun j b1 b2 => ?_, QFr.trans (QFr.wI (by omega)) (a3.imp (fun j hj => by omega))⟩
    · rw [ff_mo_house_165_f]
      unfold ff_mo_house_165_b
      simp (disch := omega) only [u32_lit, sm_let_eq, sm_bind_some, sm_cI_some, sm_cV_some, sm_cL_some, sm_rd_u, sm_wr_u, u32_add, u32_mul, u32_sub, u32_le, u32_lt, u32_eq, u32_eq_neg, u32_neg_eq, u32_neg_neg, u32_le_neg, u32_neg_lt, u32_lt_neg, u32_neg_le, u10, u01, u3n0, u1n0, u4n0, n9_lt, n1_lt, n9_neg, n1_neg, if_true, if_false, if_pos, if_neg, ne_eq, not_true_eq_false, not_false_eq_true]
      rw [sm_wI_ne (by decide)] at a1
      exact a1
    · by_cases hj : j = i
      · subst hj
        rw [a3.2.1 _ (by omega)]
        exact sm_wI_eq
      · exact a2 j (by omega) b2
/-- the reference's rows of the speakers hold what was read -/
def SetM (w : sm_Mem) (items : List It) (i : Nat) : Prop := ∀ j x, j < i → items[j]? = some x → w.1 64 j = u32 x.1 ∧ w.1 65 j = u32 x.2.1 ∧ w.1 63 (20 + j) = u32 x.2.2.1 ∧ w.1 66 j = u32 x.2.2.2 ∧ w.1 63 (26 + j) = u32 x.2.2.2
theorem mo_house_loop {items : List It} (h6 : items.length ≤ 6) : ∀ (m i F : Nat) (w : sm_Mem), i + m = items.length → m < F → w.1 62 1 = u32 items.length → (∀ i x, items[i]? = some x → w.1 72 (4 * i) = u32 x.1 ∧ w.1 72 (4 * i + 1) = u32 x.2.1 ∧ w.1 72 (4 * i + 2) = u32 x.2.2.1 ∧ w.1 72 (4 * i + 3) = u32 x.2.2.2) → SetM w items i → ∃ w1, ff_mo_house_69_f F (u32 i) w = ff_mo_house_165 (u32 1) w1 ∧ SetM w1 items items.length ∧ (∀ a, a ≠ 63 → a ≠ 64 → a ≠ 65 → a ≠ 66 → w1.1 a = w.1 a) ∧ (∀ j, (j < 20 ∨ 32 ≤ j) → w1.1 63 j = w.1 63 j) ∧ w1.2 = w.2 := by
  intro m
  induction m with
  | zero =>
    intro i F w hm hF hn hr hS
    obtain ⟨F, rfl⟩ : ∃ G, F = G + 1 := ⟨F - 1, by omega⟩
    refine ⟨w, ?_, by rw [show items.length = i by omega]; exact hS, fun _ _ _ _ _ => rfl, fun _ _ => rfl, rfl⟩
    rw [ff_mo_house_69_f]
    unfold ff_mo_house_69_b
    simp (disch := omega) only [u32_lit, sm_let_eq, sm_bind_some, sm_cI_some, sm_cV_some, sm_cL_some, sm_rd_u, sm_wr_u, u32_add, u32_mul, u32_sub, u32_le, u32_lt, u32_eq, u32_eq_neg, u32_neg_eq, u32_neg_neg, u32_le_neg, u32_neg_lt, u32_lt_neg, u32_neg_le, u10, u01, u3n0, u1n0, u4n0, n9_lt, n1_lt, n9_neg, n1_neg, if_true, if_false, if_pos, if_neg, ne_eq, not_true_eq_false, not_false_eq_true, hn]
  | succ m ih =>
    intro i F w hm hF hn hr hS
    obtain ⟨F, rfl⟩ : ∃ G, F = G + 1 := ⟨F - 1, by omega⟩
    have hx : items[i]? = some (items[i]'(by omega)) := List.getElem?_eq_getElem (by omega)
    generalize items[i]'(by omega) = x at hx
    obtain ⟨r1, r2, r3, r4⟩ := hr i x hx
    obtain ⟨w1, a1, a2, a3, a4, a5⟩ := ih (i + 1) F (sm_wI (sm_wI (sm_wI (sm_wI (sm_wI w 64 i (u32 x.1)) 65 i (u32 x.2.1)) 63 (20 + i) (u32 x.2.2.1)) 66 i (u32 x.2.2.2)) 63 (26 + i) (u32 x.2.2.2)) (by omega) (by omega) (by simp (disch := omega) only [sm_wI_ne, sm_wI_nj, sm_wI_eq, sm_wA_ne, sm_wA_eq]; exact hn) (fun j y hy => by simp (disch := omega) only [sm_wI_ne, sm_wI_nj, sm_wI_eq, sm_wA_ne, sm_wA_eq]; exact hr j y hy) (fun j y hj hy => by
      by_cases hji : j = i
      · subst hji
        rw [hx] at hy
        cases hy
        simp (disch := omega) only [sm_wI_ne, sm_wI_nj, sm_wI_eq, sm_wA_ne, sm_wA_eq, and_self]
      · simp (disch := omega) only [sm_wI_ne, sm_wI_nj, sm_wI_eq, sm_wA_ne, sm_wA_eq]
        exact hS j y (by omega) hy)
    refine ⟨w1, ?_, a2, fun a c1 c2 c3 c4 => by rw [a3 a c1 c2 c3 c4]; simp (disch := omega) only [sm_wI_ne, sm_wI_nj, sm_wI_eq, sm_wA_ne, sm_wA_eq], fun j hj => by rw [a4 j hj]; simp (disch := omega) only [sm_wI_ne, sm_wI_nj, sm_wI_eq, sm_wA_ne, sm_wA_eq], a5⟩
    rw [ff_mo_house_69_f]
    unfold ff_mo_house_69_b
    simp (disch := omega) only [u32_lit, sm_let_eq, sm_bind_some, sm_cI_some, sm_cV_some, sm_cL_some, sm_rd_u, sm_wr_u, u32_add, u32_mul, u32_sub, u32_le, u32_lt, u32_eq, u32_eq_neg, u32_neg_eq, u32_neg_neg, u32_le_neg, u32_neg_lt, u32_lt_neg, u32_neg_le, u10, u01, u3n0, u1n0, u4n0, n9_lt, n1_lt, n9_neg, n1_neg, if_true, if_false, if_pos, if_neg, ne_eq, not_true_eq_false, not_false_eq_true, hn, sm_wI_ne, sm_wI_nj, sm_wI_eq, sm_wA_ne, sm_wA_eq, r1, r2, r3, r4]
    exact a1
theorem ho_house_kept : ∀ (m i F : Nat) (w : sm_Mem), i + m = 3 → m < F → ∃ w1, ff_ho_house_48_f F (u32 i) w = some (.int (w.1 36 0), w1) ∧ (∀ k, i ≤ k → k < 3 → w1.1 (24 + 4 * k) 3 = -u32 9) ∧ (∀ a, (a < 24 ∨ 36 ≤ a) → w1.1 a = w.1 a) ∧ (∀ k, k < i → w1.1 (24 + 4 * k) = w.1 (24 + 4 * k)) ∧ w1.2 = w.2 := by
  intro m
  induction m with
  | zero =>
    intro i F w hm hF
    obtain ⟨F, rfl⟩ : ∃ G, F = G + 1 := ⟨F - 1, by omega⟩
    refine ⟨w, ?_, fun k a b => absurd a (by omega), fun _ _ => rfl, fun _ _ => rfl, rfl⟩
    rw [ff_ho_house_48_f]
    unfold ff_ho_house_48_b
    simp (disch := omega) only [u32_lit, sm_let_eq, sm_bind_some, sm_cI_some, sm_cV_some, sm_cL_some, sm_rd_u, sm_wr_u, u32_add, u32_mul, u32_sub, u32_le, u32_lt, u32_eq, u32_eq_neg, u32_neg_eq, u32_neg_neg, u32_le_neg, u32_neg_lt, u32_lt_neg, u32_neg_le, u10, u01, u3n0, u1n0, u4n0, n9_lt, n1_lt, n9_neg, n1_neg, if_true, if_false, if_pos, if_neg, ne_eq, not_true_eq_false, not_false_eq_true]
  | succ m ih =>
    intro i F w hm hF
    obtain ⟨F, rfl⟩ : ∃ G, F = G + 1 := ⟨F - 1, by omega⟩
    have hi : i < 3 := by omega
    obtain ⟨w1, a1, a2, a3, a4, a5⟩ := ih (i + 1) F (sm_wI w (24 + 4 * i) 3 (-u32 9)) (by omega) (by omega)
    refine ⟨w1, ?_, fun k b1 b2 => ?_, fun a ha => by rw [a3 a ha, sm_wI_ne (by omega)], fun k hk => by rw [a4 k (by omega), sm_wI_ne (by omega)], a5⟩
    · rw [ff_ho_house_48_f]
      unfold ff_ho_house_48_b
      simp (disch := omega) only [u32_lit, sm_let_eq, sm_bind_some, sm_cI_some, sm_cV_some, sm_cL_some, sm_rd_u, sm_wr_u, u32_add, u32_mul, u32_sub, u32_le, u32_lt, u32_eq, u32_eq_neg, u32_neg_eq, u32_neg_neg, u32_le_neg, u32_neg_lt, u32_lt_neg, u32_neg_le, u10, u01, u3n0, u1n0, u4n0, n9_lt, n1_lt, n9_neg, n1_neg, if_true, if_false, if_pos, if_neg, ne_eq, not_true_eq_false, not_false_eq_true, rr_kept hi, (isDeeds_kept hi).pI]
      rw [sm_wI_ne (by omega)] at a1
      exact a1
    · by_cases hk : k = i
      · subst hk
        rw [a4 k (by omega), sm_wI_eq]
      · exact a2 k (by omega) b2
theorem op_house {t : Int32} {w : sm_Mem} (h : R w) : Both (ff_ho_house t) (ff_mo_house t) R w := by
  have hc := h.1
  rcases aCases t 4 with hr | ⟨t, hr, -, rfl⟩
  · refine BothR_same h (-u32 1) ?_ ?_
    · unfold ff_ho_house
      simp (disch := omega) only [u32_lit, sm_let_eq, sm_bind_some, sm_cI_some, sm_cV_some, sm_cL_some, sm_rd_u, sm_wr_u, u32_add, u32_mul, u32_sub, u32_le, u32_lt, u32_eq, u32_eq_neg, u32_neg_eq, u32_neg_neg, u32_le_neg, u32_neg_lt, u32_lt_neg, u32_neg_le, u10, u01, u3n0, u1n0, u4n0, n9_lt, n1_lt, n9_neg, n1_neg, if_true, if_false, if_pos, if_neg, ne_eq, not_true_eq_false, not_false_eq_true, miss_text_bad hr]
    · unfold ff_mo_house
      simp (disch := omega) only [u32_lit, sm_let_eq, sm_bind_some, sm_cI_some, sm_cV_some, sm_cL_some, sm_rd_u, sm_wr_u, u32_add, u32_mul, u32_sub, u32_le, u32_lt, u32_eq, u32_eq_neg, u32_neg_eq, u32_neg_neg, u32_le_neg, u32_neg_lt, u32_lt_neg, u32_neg_le, u10, u01, u3n0, u1n0, u4n0, n9_lt, n1_lt, n9_neg, n1_neg, if_true, if_false, if_pos, if_neg, ne_eq, not_true_eq_false, not_false_eq_true, mo_isText_bad hr]
  have hR := isRow_text hr
  rcases (hc.2.1 t hr).cases with ⟨hcc, hm⟩ | ⟨n, hn, hcc, hm, he⟩
  · refine BothR_ref h 1 ?_ ?_
    · unfold ff_ho_house
      simp (disch := omega) only [u32_lit, sm_let_eq, sm_bind_some, sm_cI_some, sm_cV_some, sm_cL_some, sm_rd_u, sm_wr_u, u32_add, u32_mul, u32_sub, u32_le, u32_lt, u32_eq, u32_eq_neg, u32_neg_eq, u32_neg_neg, u32_le_neg, u32_neg_lt, u32_lt_neg, u32_neg_le, u10, u01, u3n0, u1n0, u4n0, n9_lt, n1_lt, n9_neg, n1_neg, if_true, if_false, if_pos, if_neg, ne_eq, not_true_eq_false, not_false_eq_true, miss_text_none hr hcc]
    · unfold ff_mo_house
      simp (disch := omega) only [u32_lit, sm_let_eq, sm_bind_some, sm_cI_some, sm_cV_some, sm_cL_some, sm_rd_u, sm_wr_u, u32_add, u32_mul, u32_sub, u32_le, u32_lt, u32_eq, u32_eq_neg, u32_neg_eq, u32_neg_neg, u32_le_neg, u32_neg_lt, u32_lt_neg, u32_neg_le, u10, u01, u3n0, u1n0, u4n0, n9_lt, n1_lt, n9_neg, n1_neg, if_true, if_false, if_pos, if_neg, ne_eq, not_true_eq_false, not_false_eq_true, mo_isText_good hr, wcRef_ne, hm, mo_find]
  have hfm : ∀ w0, w0.1 69 t = u32 n → (∀ j, w0.1 70 j = w.1 70 j) → ∃ (p : Nat) (w1 : sm_Mem), ff_mo_faultOf (u32 t) w0 = some (.int (fAns (psr (w.1 (15 + 2 * t + 1)) n 0 []).1), w1) ∧ PSt w1 t n p (psr (w.1 (15 + 2 * t + 1)) n 0 []).2 ∧ PFr w0 w1 := by
    intro w0 g1 g2
    have := mo_faultOf (w := w0) hr hn g1
    rw [← psr_congr (f := w.1 (15 + 2 * t + 1)) (fun j hj => by rw [g2]; exact he j hj)] at this
    exact this
  cases hps : psr (w.1 (15 + 2 * t + 1)) n 0 [] with
  | mk fault items =>
    rw [hps] at hfm
    cases fault with
    | some e =>
      obtain ⟨p, w1, b1, b2, b3⟩ := hfm w hm (fun _ => rfl)
      have hee : (u32 e = -u32 9) = False := by
        have : e ≤ 100 := by
          have key : ∀ (m p : Nat) (it : List It), n ≤ p + m → p ≤ n → ∀ e items, psr (w.1 (15 + 2 * t + 1)) n p it = (some e, items) → e ≤ 100 := by
            intro m
            induction m using Nat.strongRecOn with
            | ind m ih =>
              intro p it hm hp e items h
              by_cases hpn : n ≤ p
              · rw [psr_end hpn] at h
                have := (Prod.mk.inj h).1
                split at this
                · cases this; omega
                · cases this
              by_cases hb : w.1 (15 + 2 * t + 1) p = u32 32
              · rw [psr_blank (by omega) hb] at h
                exact ih (m - 1) (by omega) (p + 1) it (by omega) (by omega) e items h
              by_cases h6 : it.length = 6
              · rw [psr_seven (by omega) hb h6] at h
                cases h
                omega
              cases hx : pit (w.1 (15 + 2 * t + 1)) n p with
              | inl e1 =>
                rw [psr_bad (by omega) hb h6 hx] at h
                cases h
                unfold pit at hx
                repeat' split at hx
                all_goals first | (cases hx; done) | (cases hx; omega)
              | inr x =>
                obtain ⟨k, a, b, r, e1, g0, g1, g2, g3, -⟩ := pit_ok hx
                rw [psr_item (by omega) hb h6 hx] at h
                exact ih (m - 5) (by omega) (p + 5) _ (by omega) (by omega) e items h
          exact key n 0 [] (by omega) (by omega) e items hps
        exact u32_eq_neg (by omega) (by decide) (by decide)
      refine Both_mk (.int (-u32 4)) w w1 ?_ ?_ (R_of_cells h (RCells_PFr hc b3))
      · unfold ff_ho_house
        simp (disch := omega) only [u32_lit, sm_cI_some, sm_bind_some, miss_text_some hr (show n < 2147483648 by omega) hcc, rr_text hr, ho_faultOf hR hn hcc, hps, fAns, hee, if_false, if_true]
      · unfold ff_mo_house
        simp (disch := omega) only [u32_lit, sm_cI_some, sm_bind_some, sm_rd_u, mo_isText_good hr, u10, if_false, hm, u0_le, if_true, b1, fAns, hee]
    | none =>
      obtain ⟨w1, a1, a2, a3, a4, a5, a6⟩ := hs_settle hR (by omega) hn hcc hps
      obtain ⟨l6, lok⟩ := psr_it (f := w.1 (15 + 2 * t + 1)) (n := n) n 0 [] (by omega) (by simp) (fun x hx => by cases hx)
      rw [hps] at l6 lok
      have hB := baseOf_ok l6 lok
      have l6 : items.length ≤ 6 := l6
      obtain ⟨w2, b1, b2, b3, b4, b5⟩ := ho_house_kept 3 0 1000000 w1 (by omega) (by omega)
      have hcn : w1.1 36 0 = u32 items.length := a2.1.1
      have hc1 : ff_ho_house (u32 t) w = some (.int (u32 items.length), w2) := by
        unfold ff_ho_house ff_ho_house_48
        simp (disch := omega) only [u32_lit, sm_cI_some, sm_cV_some, sm_bind_some, miss_text_some hr (show n < 2147483648 by omega) hcc, rr_text hr, ho_faultOf hR hn hcc, hps, fAns, if_true, a1, sm_N_eq, b1, hcn]
      have efr : ∀ a, (a < 24 ∨ 49 ≤ a) → w2.1 a = w.1 a := fun a ha => (b3 a (by omega)).trans (a5 a (by omega))
      obtain ⟨p, w3, c1, c2, c3⟩ := hfm w2 (by rw [efr 69 (by omega)]; exact hm) (fun j => by rw [efr 70 (by omega)])
      obtain ⟨w4, d1, d2, d3⟩ := mo_house_zero 1272 0 1000000 w3 (by omega) (by omega)
      have hmany : w4.1 62 18 = u32 items.length := by rw [d3.1 62 (by decide)]; exact c2.2.2.2.1
      obtain ⟨w5, e1, e2, e3, e4, e5⟩ := mo_house_loop (items := items) l6 items.length 0 1000000 (sm_wI w4 62 1 (u32 items.length)) (by omega) (by omega) sm_wI_eq (fun i x hx => by rw [sm_wI_ne (by decide), d3.1 72 (by decide)]; exact c2.2.2.2.2 i x hx) (fun j x hj => absurd hj (Nat.not_lt_zero _))
      obtain ⟨w6, f1, f2, f3⟩ := mo_house_kept 3 1 1000000 w5 (by omega) (by omega) (by omega)
      have hm1 : ff_mo_house (u32 t) w2 = some (.int (u32 items.length), w6) := by
        have hm' : w2.1 69 t = u32 n := by rw [efr 69 (by omega)]; exact hm
        unfold ff_mo_house
        simp (disch := omega) only [u32_lit, sm_cI_some, sm_bind_some, sm_rd_u, mo_isText_good hr, u10, if_false, hm', u0_le, if_true, c1, fAns]
        unfold ff_mo_house_39
        rw [sm_N_eq, d1, hmany]
        unfold ff_mo_house_69
        rw [sm_N_eq, e1]
        unfold ff_mo_house_165
        rw [sm_N_eq, f1, e3 62 (by decide) (by decide) (by decide) (by decide), sm_wI_eq]
      -- the cells, from w2 to w6
      have g1 : ∀ a, (a < 62 ∨ a = 67 ∨ a = 68 ∨ a = 69 ∨ a = 70 ∨ a = 71) → w6.1 a = w2.1 a := fun a ha => by
        rw [f3.1 a (by omega), e3 a (by omega) (by omega) (by omega) (by omega), sm_wI_ne (by omega), d3.1 a (by omega), c3.1 a (by omega) (by omega)]
      have g62 : ∀ j, j ≠ 1 → j < 14 → w6.1 62 j = w2.1 62 j := fun j h1 h2 => by
        rw [f3.1 62 (by decide), e3 62 (by decide) (by decide) (by decide) (by decide), sm_wI_nj h1, d3.1 62 (by decide), c3.2.1 j h2]
      have gz : ∀ j, j < 20 → w6.1 63 j = u32 0 := fun j hj => by
        rw [f3.2.1 j (by omega), e4 j (by omega), sm_wI_ne (by decide), d2 j (by omega) (by omega)]
      have hit : ∀ i, i < items.length → items[i]? = some (items.getD i dIt) := fun i hi => by rw [List.getD_eq_getElem?_getD, List.getElem?_eq_getElem hi]; rfl
      have gS : ∀ i, i < items.length → w6.1 64 i = u32 (items.getD i dIt).1 ∧ w6.1 65 i = u32 (items.getD i dIt).2.1 ∧ w6.1 63 (20 + i) = u32 (items.getD i dIt).2.2.1 ∧ w6.1 66 i = u32 (items.getD i dIt).2.2.2 ∧ w6.1 63 (26 + i) = u32 (items.getD i dIt).2.2.2 := fun i hi => by
        rw [f3.1 64 (by decide), f3.1 65 (by decide), f3.1 66 (by decide), f3.2.1 (20 + i) (by omega), f3.2.1 (26 + i) (by omega)]
        exact e2 i _ hi (hit i hi)
      have e2eq : w6.2 = w.2 := by rw [f3.2.2, e5, sm_wI_2, d3.2.2, c3.2.2, b5, a6]
      refine Both_mk _ w2 w6 hc1 hm1 ⟨⟨RRows_fr (fun a ha => by rw [g1 a (by omega), efr a (by omega)]) hc.1, RTexts_fr (fun a ha => by rw [g1 a (by omega), efr a (by omega)]) hc.2.1, RTold_fr (w := w) ⟨by rw [g1 60 (by omega), efr 60 (by omega)], by rw [g1 60 (by omega), efr 60 (by omega)], by rw [g1 61 (by omega), efr 61 (by omega)], by rw [g1 71 (by omega), efr 71 (by omega)], by rw [g62 9 (by decide) (by decide), efr 62 (by omega)], by rw [g62 12 (by decide) (by decide), efr 62 (by omega)]⟩ e2eq hc.2.2⟩, baseOf items, [], hB, fun i hi => ?_, fun i hi => (gS i hi).2.2.2.1, by simp, trivial, ⟨CH_fr (fun a h1 h2 => by rw [g1 a (by omega), b3 a (by omega)]) a2.1, ?_⟩, ⟨?_, trivial⟩, ⟨gz 0 (by omega), ⟨⟨?_, fun i hi => ?_, gz 1 (by omega), gz 2 (by omega), trivial⟩, gz 3 (by omega)⟩, trivial⟩, fun k hk => Or.inl ⟨?_, ?_⟩⟩
      · rw [g1 39 (by omega), g1 40 (by omega), b3 39 (by omega), b3 40 (by omega)]
        exact a3 i hi
      · rw [g1 36 (by omega), b3 36 (by omega)]
        exact a2.2
      · rw [g1 45 (by omega), b3 45 (by omega)]
        exact a4.1
      · rw [f3.1 62 (by decide), e3 62 (by decide) (by decide) (by decide) (by decide), sm_wI_eq]
        rfl
      · obtain ⟨q1, q2, q3, q4, q5⟩ := gS i hi
        rw [Nat.zero_add, Nat.zero_add]
        exact ⟨q1, q2, q3, q5⟩
      · rw [g1 _ (by omega)]
        exact b2 k (by omega) hk
      · exact f2 (k + 1) (by omega) (by omega)
