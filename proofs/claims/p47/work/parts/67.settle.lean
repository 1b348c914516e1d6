/-! pure: house -/
def itOk (x : It) : Prop := x.1 < 6 ∧ x.2.1 < 64 ∧ x.2.2.1 < 6 ∧ x.2.2.2 ≤ 9
theorem psr_it {f : Nat → Int32} {n : Nat} : ∀ (m p : Nat) (it : List It), n ≤ p + m → it.length ≤ 6 → (∀ x, x ∈ it → itOk x) → (psr f n p it).2.length ≤ 6 ∧ ∀ x, x ∈ (psr f n p it).2 → itOk x := by
  intro m
  induction m with
  | zero =>
    intro p it hm h6 h
    rw [psr_end (by omega)]
    exact ⟨h6, h⟩
  | succ m ih =>
    intro p it hm h6 h
    by_cases hp : n ≤ p
    · rw [psr_end hp]
      exact ⟨h6, h⟩
    by_cases hb : f p = u32 32
    · rw [psr_blank (by omega) hb]
      exact ih (p + 1) it (by omega) h6 h
    by_cases hs : it.length = 6
    · rw [psr_seven (by omega) hb hs]
      exact ⟨h6, h⟩
    cases hx : pit f n p with
    | inl e =>
      rw [psr_bad (by omega) hb hs hx]
      exact ⟨h6, h⟩
    | inr x =>
      rw [psr_item (by omega) hb hs hx]
      obtain ⟨k, a, b, r, e, h1, h2, h3, h4, h5, g1, g2, g3, g4, g5, g6, g7, g8, g9⟩ := pit_ok hx
      refine ih (p + 5) _ (by omega) (by rw [List.length_append]; simp; omega) (fun y hy => ?_)
      rcases List.mem_append.mp hy with hy | hy
      · exact h y hy
      · have : y = x := by simpa using hy
        rw [this, h1]
        exact ⟨h3, by show 10 * a + b < 64; omega, by show r < 6; omega, g9⟩
theorem psr_stop {f : Nat → Int32} {n : Nat} {items : List It} : ∀ (m p : Nat) (it : List It), n ≤ p + m → (n < p + 5 ∨ it.length = 6) → psr f n p it = (none, items) → items = it := by
  intro m
  induction m with
  | zero =>
    intro p it hm hs h
    rw [psr_end (by omega)] at h
    exact (Prod.mk.inj h).2.symm
  | succ m ih =>
    intro p it hm hs h
    by_cases hp : n ≤ p
    · rw [psr_end hp] at h
      exact (Prod.mk.inj h).2.symm
    by_cases hb : f p = u32 32
    · rw [psr_blank (by omega) hb] at h
      exact ih (p + 1) it (by omega) (by omega) h
    by_cases h6 : it.length = 6
    · rw [psr_seven (by omega) hb h6] at h
      cases h
    cases hx : pit f n p with
    | inl e =>
      rw [psr_bad (by omega) hb h6 hx] at h
      cases h
    | inr x =>
      obtain ⟨k, a, b, r, e, h1, h2, h3, h4, -⟩ := pit_ok hx
      omega
def dIt : It := (0, 0, 0, 0)
def baseOf (it : List It) : HBase := (it.length, fun i => (it.getD i dIt).1, fun i => (it.getD i dIt).2.1, fun i => (it.getD i dIt).2.2.1, fun i => (it.getD i dIt).2.2.2)
theorem baseOf_ok {it : List It} (h6 : it.length ≤ 6) (h : ∀ x, x ∈ it → itOk x) : BOk (baseOf it) := by
  refine ⟨h6, fun i hi => ?_⟩
  have hi : i < it.length := hi
  have e : it.getD i dIt = it[i] := by rw [List.getD_eq_getElem?_getD, List.getElem?_eq_getElem hi]; rfl
  have := h it[i] (List.getElem_mem hi)
  show (it.getD i dIt).1 < 6 ∧ (it.getD i dIt).2.1 < 64 ∧ (it.getD i dIt).2.2.1 < 6 ∧ (it.getD i dIt).2.2.2 ≤ 9
  rw [e]
  exact this
/-- the class's rows of the speakers hold what was read -/
def SetC (w : sm_Mem) (it : List It) : Prop := w.1 36 0 = u32 it.length ∧ ∀ i x, it[i]? = some x → w.1 37 i = u32 x.1 ∧ w.1 38 i = u32 x.2.1 ∧ w.1 39 i = u32 x.2.2.1 ∧ w.1 40 i = u32 x.2.2.2
theorem hs_figure {c q d : Nat} {w : sm_Mem} (hR : isRow c 60) (hq : q < 60) (h : w.1 (c + 1) q = u32 (48 + d)) : ff_hs_figure c (u32 q) w = some (.int (u32 d), w) := by
  unfold ff_hs_figure
  simp (disch := omega) only [u32_lit, sm_let_eq, sm_bind_some, sm_cI_some, sm_cV_some, sm_cL_some, sm_rd_u, sm_wr_u, u32_add, u32_mul, u32_sub, u32_le, u32_lt, u32_eq, u32_eq_neg, u32_neg_eq, u32_neg_neg, u32_le_neg, u32_neg_lt, u32_lt_neg, u32_neg_le, u10, u01, u3n0, u1n0, u4n0, n9_lt, n1_lt, n9_neg, n1_neg, if_true, if_false, if_pos, if_neg, ne_eq, not_true_eq_false, not_false_eq_true, hR.fk, hR.rds hq, h]
  rw [show 48 + d - 48 = d by omega]
theorem hs_settle_loop {c n : Nat} {items : List It} (hR : isRow c 60) (hc : c < 30) (hn : n ≤ 60) : ∀ (m p F : Nat) (it : List It) (w : sm_Mem), n ≤ p + m → m < F → it.length ≤ 6 → w.1 c 1 = u32 n → SetC w it → psr (w.1 (c + 1)) n p it = (none, items) → p ≤ 60 → ∃ w1, ff_hs_settle_7_f F c (u32 p) w = ff_hs_settle_136 w1 ∧ SetC w1 items ∧ (∀ a, (a < 36 ∨ 40 < a) → w1.1 a = w.1 a) ∧ w1.2 = w.2 := by
  intro m
  induction m using Nat.strongRecOn with
  | ind m ih =>
    intro p F it w hm hF h6 hw hS hp hp60
    obtain ⟨F, rfl⟩ : ∃ G, F = G + 1 := ⟨F - 1, by omega⟩
    by_cases hsh : n < p + 5
    · have e := psr_stop m p it hm (Or.inl hsh) hp
      subst e
      refine ⟨w, ?_, hS, fun _ _ => rfl, rfl⟩
      rw [ff_hs_settle_7_f]
      unfold ff_hs_settle_7_b
      simp (disch := omega) only [u32_lit, sm_let_eq, sm_bind_some, sm_cI_some, sm_cV_some, sm_cL_some, sm_rd_u, sm_wr_u, u32_add, u32_mul, u32_sub, u32_le, u32_lt, u32_eq, u32_eq_neg, u32_neg_eq, u32_neg_neg, u32_le_neg, u32_neg_lt, u32_lt_neg, u32_neg_le, u10, u01, u3n0, u1n0, u4n0, n9_lt, n1_lt, n9_neg, n1_neg, if_true, if_false, if_pos, if_neg, ne_eq, not_true_eq_false, not_false_eq_true, hR.gI, hw]
    by_cases hl6 : it.length = 6
    · have e := psr_stop m p it hm (Or.inr hl6) hp
      subst e
      refine ⟨w, ?_, hS, fun _ _ => rfl, rfl⟩
      rw [ff_hs_settle_7_f]
      unfold ff_hs_settle_7_b
      simp (disch := omega) only [u32_lit, sm_let_eq, sm_bind_some, sm_cI_some, sm_cV_some, sm_cL_some, sm_rd_u, sm_wr_u, u32_add, u32_mul, u32_sub, u32_le, u32_lt, u32_eq, u32_eq_neg, u32_neg_eq, u32_neg_neg, u32_le_neg, u32_neg_lt, u32_lt_neg, u32_neg_le, u10, u01, u3n0, u1n0, u4n0, n9_lt, n1_lt, n9_neg, n1_neg, if_true, if_false, if_pos, if_neg, ne_eq, not_true_eq_false, not_false_eq_true, hR.gI, hw, hS.1, hl6]
    by_cases hb : w.1 (c + 1) p = u32 32
    · rw [psr_blank (by omega) hb] at hp
      obtain ⟨w1, a1, a2⟩ := ih (m - 1) (by omega) (p + 1) F it w (by omega) (by omega) h6 hw hS hp (by omega)
      refine ⟨w1, ?_, a2⟩
      rw [ff_hs_settle_7_f]
      unfold ff_hs_settle_7_b
      simp (disch := omega) only [u32_lit, sm_bind_some, u32_add, u32_lt, u32_le, if_neg, hR.gI, hw, hS.1, hR.fk, hR.rds (show p < 60 by omega), hb, if_true]
      exact a1
    cases hx : pit (w.1 (c + 1)) n p with
    | inl e => rw [psr_bad (by omega) hb hl6 hx] at hp; cases hp
    | inr x =>
      obtain ⟨k, a, b, r, e, g0, g1, g2, g3, g4, g5, g6, g7, b1, b2, b3, b4, b5, b6⟩ := pit_ok hx
      rw [psr_item (by omega) hb hl6 hx] at hp
      have hlt : it.length < 6 := by omega
      have hS2 : SetC (sm_wI (sm_wI (sm_wI (sm_wI (sm_wI w 37 it.length (u32 k)) 38 it.length (u32 (10 * a + b))) 39 it.length (u32 r)) 40 it.length (u32 e)) 36 0 (u32 (it.length + 1))) (it ++ [x]) := by
        refine ⟨?_, fun i y hy => ?_⟩
        · rw [sm_wI_eq, List.length_append]
          rfl
        · by_cases hi : i < it.length
          · rw [List.getElem?_append_left hi] at hy
            simp (disch := omega) only [sm_wI_ne, sm_wI_nj, sm_wI_eq, sm_wA_ne, sm_wA_eq]
            exact hS.2 i y hy
          · rw [List.getElem?_append_right (by omega)] at hy
            have : i - it.length = 0 := by
              have := (List.getElem?_eq_some_iff.mp hy).1
              simp at this
              omega
            rw [this] at hy
            cases hy
            have ei : i = it.length := by omega
            subst ei
            rw [g0]
            simp (disch := omega) only [sm_wI_ne, sm_wI_nj, sm_wI_eq, sm_wA_ne, sm_wA_eq, and_self]
      obtain ⟨w1, a1, a2, a3, a4⟩ := ih (m - 5) (by omega) (p + 5) F (it ++ [x]) _ (by omega) (by omega) (by rw [List.length_append]; simp; omega) (by simp (disch := omega) only [sm_wI_ne, sm_wI_nj, sm_wI_eq, sm_wA_ne, sm_wA_eq]; exact hw) hS2 (by simp (disch := omega) only [sm_wI_ne, sm_wI_nj, sm_wI_eq, sm_wA_ne, sm_wA_eq]; exact hp) (by omega)
      refine ⟨w1, ?_, a2, fun q hq => ?_, a4⟩
      · rw [ff_hs_settle_7_f]
        unfold ff_hs_settle_7_b
        have f1 : ∀ w', w'.1 (c + 1) = w.1 (c + 1) → ff_hs_figure c (u32 (p + 1)) w' = some (.int (u32 a), w') := fun w' h' => hs_figure hR (by omega) (by rw [h']; exact g4)
        have f2 : ∀ w', w'.1 (c + 1) = w.1 (c + 1) → ff_hs_figure c (u32 (p + 2)) w' = some (.int (u32 b), w') := fun w' h' => hs_figure hR (by omega) (by rw [h']; exact g5)
        have f3 : ∀ w', w'.1 (c + 1) = w.1 (c + 1) → ff_hs_figure c (u32 (p + 3)) w' = some (.int (u32 r), w') := fun w' h' => hs_figure hR (by omega) (by rw [h']; exact g6)
        have f4 : ∀ w', w'.1 (c + 1) = w.1 (c + 1) → ff_hs_figure c (u32 (p + 4)) w' = some (.int (u32 e), w') := fun w' h' => hs_figure hR (by omega) (by rw [h']; exact g7)
        simp (disch := omega) only [u32_lit, sm_bind_some, u32_add, u32_lt, u32_le, if_neg, hR.gI, hw, hS.1, hR.fk, hR.rds (show p < 60 by omega), hb, if_false, ho_kindOf, g1, fAns, sm_cI_some, sm_wr_u]
        rw [f1 _ (by simp (disch := omega) only [sm_wI_ne, sm_wI_nj, sm_wI_eq, sm_wA_ne, sm_wA_eq])]
        simp (disch := omega) only [sm_cI_some]
        rw [f2 _ (by simp (disch := omega) only [sm_wI_ne, sm_wI_nj, sm_wI_eq, sm_wA_ne, sm_wA_eq])]
        simp (disch := omega) only [sm_cI_some, u32_mul, u32_add, sm_wI_ne, sm_wI_nj, sm_wI_eq, sm_wA_ne, sm_wA_eq, hS.1, sm_wr_u, sm_bind_some]
        rw [f3 _ (by simp (disch := omega) only [sm_wI_ne, sm_wI_nj, sm_wI_eq, sm_wA_ne, sm_wA_eq])]
        simp (disch := omega) only [sm_cI_some, sm_wI_ne, sm_wI_nj, sm_wI_eq, sm_wA_ne, sm_wA_eq, hS.1, sm_wr_u, sm_bind_some]
        rw [f4 _ (by simp (disch := omega) only [sm_wI_ne, sm_wI_nj, sm_wI_eq, sm_wA_ne, sm_wA_eq])]
        simp (disch := omega) only [sm_cI_some, sm_wI_ne, sm_wI_nj, sm_wI_eq, sm_wA_ne, sm_wA_eq, hS.1, sm_wr_u, sm_bind_some, sm_let_eq, u32_add]
        exact a1
      · rw [a3 q hq]
        simp (disch := omega) only [sm_wI_ne, sm_wI_nj, sm_wI_eq, sm_wA_ne, sm_wA_eq]
theorem hs_settle {c n : Nat} {items : List It} {w : sm_Mem} (hR : isRow c 60) (hc : c < 30) (hn : n ≤ 60) (hw : w.1 c 1 = u32 n) (hp : psr (w.1 (c + 1)) n 0 [] = (none, items)) : ∃ w1, ff_hs_settle c w = some (.null, w1) ∧ CHX w1 (playV (baseOf items) []) ∧ CB w1 (baseOf items) ∧ CD w1 45 [] ∧ (∀ a, (a < 36 ∨ 45 < a) → w1.1 a = w.1 a) ∧ w1.2 = w.2 := by
  obtain ⟨l6, lok⟩ := psr_it (f := w.1 (c + 1)) (n := n) n 0 [] (by omega) (by simp) (fun x hx => by cases hx)
  rw [hp] at l6 lok
  have hB := baseOf_ok l6 lok
  obtain ⟨w1, a1, a2, a3, a4⟩ := hs_settle_loop (items := items) hR hc hn n 0 1000000 [] (sm_wI w 36 0 (u32 0)) (by omega) (by omega) (by simp) (by simp (disch := omega) only [sm_wI_ne, sm_wI_nj, sm_wI_eq, sm_wA_ne, sm_wA_eq]; exact hw) ⟨sm_wI_eq, fun i x hx => by simp at hx⟩ (by simp (disch := omega) only [sm_wI_ne, sm_wI_nj, sm_wI_eq, sm_wA_ne, sm_wA_eq]; exact hp) (by omega)
  have hit : ∀ i, i < items.length → items[i]? = some (items.getD i dIt) := fun i hi => by rw [List.getD_eq_getElem?_getD, List.getElem?_eq_getElem hi]; rfl
  obtain ⟨w2, b1, b2, b3, b4, b5⟩ := hs_goBackTo (B := baseOf items) (ds := []) (n := 0) (w := w1) hB (by simp) trivial (Nat.le_refl _) a2.1 (fun i hi => ⟨(a2.2 i _ (hit i hi)).1, (a2.2 i _ (hit i hi)).2.1⟩) (fun i hi => ⟨(a2.2 i _ (hit i hi)).2.2.1, (a2.2 i _ (hit i hi)).2.2.2⟩) trivial
  refine ⟨w2, ?_, b2, fun i hi => ?_, ⟨b3, trivial⟩, fun a ha => ?_, b5.trans a4⟩
  · unfold ff_hs_settle ff_hs_settle_7
    simp only [u32_lit, sm_let_eq]
    rw [sm_N_eq, a1]
    unfold ff_hs_settle_136
    rw [u32_lit, b1]
    rfl
  · rw [b4 39 (by omega), b4 40 (by omega)]
    exact ⟨(a2.2 i _ (hit i hi)).2.2.1, (a2.2 i _ (hit i hi)).2.2.2⟩
  · rw [b4 a (by omega), a3 a (by omega), sm_wI_ne (by omega)]
theorem ho_house_kept : ∀ (m i F : Nat) (w : sm_Mem), i + m = 3 → m < F → ∃ w1, ff_ho_house_48_f F (u32 i) w = some (.int (w.1 36 0), w1) ∧ (∀ k, i ≤ k → k < 3 → w1.1 (24 + 4 * k) 3 = -u32 9) ∧ (∀ a, (a < 24 ∨ 36 ≤ a) → w1.1 a = w.1 a) ∧ (∀ k, k < i → w1.1 (24 + 4 * k) = w.1 (24 + 4 * k)) ∧ w1.2 = w.2 := by
  intro m
  induction m with
  | zero =>
    intro i F w hm hF
    obtain ⟨F, rfl⟩ : ∃ G, F = G + 1 := ⟨F - 1, by omega⟩
    refine ⟨w, ?_, fun k a b => absurd a (by omega), fun _ _ => rfl, fun _ _ => rfl, rfl⟩
    rw [ff_ho_house_48_f]
    unfold ff_ho_house_48_b
    simp (disch := omega) only [u32_lit, sm_let_eq, sm_bind_some, sm_cI_some, sm_cV_some, sm_cL_some, sm_rd_u, sm_wr_u, u32_add, u32_mul, u32_sub, u32_le, u32_lt, u32_eq, u32_eq_neg, u32_neg_eq, u32_neg_neg, u32_le_neg, u32_neg_lt, u32_lt_neg, u32_neg_le, u10, u01, u3n0, u1n0, u4n0, n9_lt, n1_lt, n9_neg, n1_neg, if_true, if_false, if_pos, if_neg, ne_eq, not_true_eq_false, not_false_eq_true]
  | succ m ih =>
    intro i F w hm hF
    obtain ⟨F, rfl⟩ : ∃ G, F = G + 1 := ⟨F - 1, by omega⟩
    have hi : i < 3 := by omega
    obtain ⟨w1, a1, a2, a3, a4, a5⟩ := ih (i + 1) F (sm_wI w (24 + 4 * i) 3 (-u32 9)) (by omega) (by omega)
    refine ⟨w1, ?_, fun k b1 b2 => ?_, fun a ha => by rw [a3 a ha, sm_wI_ne (by omega)], fun k hk => by rw [a4 k (by omega), sm_wI_ne (by omega)], a5⟩
    · rw [ff_ho_house_48_f]
      unfold ff_ho_house_48_b
      simp (disch := omega) only [u32_lit, sm_let_eq, sm_bind_some, sm_cI_some, sm_cV_some, sm_cL_some, sm_rd_u, sm_wr_u, u32_add, u32_mul, u32_sub, u32_le, u32_lt, u32_eq, u32_eq_neg, u32_neg_eq, u32_neg_neg, u32_le_neg, u32_neg_lt, u32_lt_neg, u32_neg_le, u10, u01, u3n0, u1n0, u4n0, n9_lt, n1_lt, n9_neg, n1_neg, if_true, if_false, if_pos, if_neg, ne_eq, not_true_eq_false, not_false_eq_true, rr_kept hi, (isDeeds_kept hi).pI]
      rw [sm_wI_ne (by omega)] at a1
      exact a1
    · by_cases hk : k = i
      · subst hk
        rw [a4 k (by omega), sm_wI_eq]
      · exact a2 k (by omega) b2
