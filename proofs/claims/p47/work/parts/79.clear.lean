/-! pure: a search of the class from its begin to its end -/
def RFr (w w1 : sm_Mem) : Prop := (∀ a, (a < 36 ∨ (36 < a ∧ a < 42) ∨ (44 < a ∧ a < 49) ∨ 55 < a) → w1.1 a = w.1 a) ∧ (∀ j, j ≠ 11 → w1.1 36 j = w.1 36 j) ∧ w1.2 = w.2
theorem RFr.refl {w : sm_Mem} : RFr w w := ⟨fun _ _ => rfl, fun _ _ => rfl, rfl⟩
theorem RFr.trans {w w1 w2 : sm_Mem} (h1 : RFr w w1) (h2 : RFr w1 w2) : RFr w w2 := ⟨fun a ha => (h2.1 a ha).trans (h1.1 a ha), fun j hj => (h2.2.1 j hj).trans (h1.2.1 j hj), h2.2.2.trans h1.2.2⟩
theorem RFr.w {w : sm_Mem} {a j : Nat} {x : Int32} (ha : 49 ≤ a) (hb : a ≤ 55) : RFr w (sm_wI w a j x) := ⟨fun b hb => sm_wI_ne (by omega), fun i hi => by rw [sm_wI_ne (by omega)], rfl⟩
theorem RFr.of {w w1 : sm_Mem} (h : WFr w w1) : RFr w w1 := ⟨fun a ha => h.1 a (by omega), h.2.1, h.2.2.2⟩
theorem tre_len {sil : Nat} : ∀ (gs : List Gl) (H : HV), hN H ≤ 6 → (tre sil gs H).length ≤ 7 ^ gs.length
  | [], _, _ => by simp [tre]
  | g :: gs, H, h => by
    rw [tre, List.length_cons, List.length_cons, Nat.pow_succ]
    have h1 := lpF_len (f := fun i => if stepV sil H i g = true then (tre sil gs (pushV H i g.1)).map (fun q => i :: q) else []) (b := 7 ^ gs.length) (hN H) 0 (fun j => by
      split
      · rw [List.length_map]
        exact tre_len gs _ h
      · exact Nat.zero_le _)
    have h2 : hN H * 7 ^ gs.length ≤ 6 * 7 ^ gs.length := Nat.mul_le_mul_right _ h
    have h3 : 0 < 7 ^ gs.length := Nat.pow_pos (by decide)
    omega
theorem wy_clear27 {w0 : sm_Mem} : ∀ (m s F : Nat) (w : sm_Mem), s + m = 64 → m < F → ∃ w1, ff_wy_clear_27_f F (u32 s) w = some (.null, w1) ∧ (∀ j, s ≤ j → j < 64 → w1.1 54 j = -u32 9) ∧ (∀ j, j < s → w1.1 54 j = w.1 54 j) ∧ w1.1 49 8 = -u32 9 ∧ w1.1 49 9 = -u32 9 ∧ w1.1 49 10 = -u32 1 ∧ w1.1 49 11 = u32 0 ∧ w1.1 49 13 = -u32 9 ∧ (∀ j, (j < 8 ∨ j = 12) → w1.1 49 j = w.1 49 j) ∧ (∀ a, a ≠ 49 → a ≠ 54 → w1.1 a = w.1 a) ∧ w1.2 = w.2 := by
  intro m
  induction m with
  | zero =>
    intro s F w hm hF
    obtain ⟨F, rfl⟩ : ∃ G, F = G + 1 := ⟨F - 1, by omega⟩
    refine ⟨sm_wI (sm_wI (sm_wI (sm_wI (sm_wI w 49 8 (-u32 9)) 49 9 (-u32 9)) 49 10 (-u32 1)) 49 11 (u32 0)) 49 13 (-u32 9), ?_, fun j a b => absurd a (by omega), fun j hj => ?_, ?_, ?_, ?_, ?_, ?_, fun j hj => ?_, fun a h1 h2 => ?_, rfl⟩
    · rw [ff_wy_clear_27_f]
      unfold ff_wy_clear_27_b
      simp (disch := omega) only [u32_lit, al_reach, sm_bind_some, u32_le, if_pos, sm_let_eq]
    all_goals simp (disch := omega) only [sm_wI_ne, sm_wI_nj, sm_wI_eq, sm_wA_ne, sm_wA_eq]
  | succ m ih =>
    intro s F w hm hF
    obtain ⟨F, rfl⟩ : ∃ G, F = G + 1 := ⟨F - 1, by omega⟩
    obtain ⟨w1, a1, a2, a3, a4, a5, a6, a7, a8, a9, a10, a11⟩ := ih (s + 1) F (sm_wI w 54 s (-u32 9)) (by omega) (by omega)
    refine ⟨w1, ?_, fun j h1 h2 => ?_, fun j h1 => ?_, a4, a5, a6, a7, a8, fun j hj => by rw [a9 j hj, sm_wI_ne (by decide)], fun a h1 h2 => by rw [a10 a h1 h2, sm_wI_ne h2], a11⟩
    · rw [ff_wy_clear_27_f]
      unfold ff_wy_clear_27_b
      simp (disch := omega) only [u32_lit, al_reach, sm_bind_some, u32_le, if_neg, sm_wr_u, u32_add]
      exact a1
    · by_cases e : j = s
      · rw [e, a3 s (by omega), sm_wI_eq]
      · exact a2 j (by omega) h2
    · rw [a3 j (by omega), sm_wI_nj (by omega)]
theorem wy_clear7 : ∀ (m d F : Nat) (w : sm_Mem), d + m = 6 → m < F → ∃ w1, ff_wy_clear_7_f F (u32 d) w = ff_wy_clear_27 (u32 0) w1 ∧ (∀ j, d ≤ j → j < 6 → w1.1 53 j = u32 0) ∧ (∀ j, j < d → w1.1 53 j = w.1 53 j) ∧ (∀ a, a ≠ 53 → w1.1 a = w.1 a) ∧ w1.2 = w.2 := by
  intro m
  induction m with
  | zero =>
    intro d F w hm hF
    obtain ⟨F, rfl⟩ : ∃ G, F = G + 1 := ⟨F - 1, by omega⟩
    refine ⟨w, ?_, fun j a b => absurd a (by omega), fun j hj => rfl, fun _ _ => rfl, rfl⟩
    rw [ff_wy_clear_7_f]
    unfold ff_wy_clear_7_b
    simp (disch := omega) only [u32_lit, u32_lt, if_pos]
  | succ m ih =>
    intro d F w hm hF
    obtain ⟨F, rfl⟩ : ∃ G, F = G + 1 := ⟨F - 1, by omega⟩
    obtain ⟨w1, a1, a2, a3, a4, a5⟩ := ih (d + 1) F (sm_wI w 53 d (u32 0)) (by omega) (by omega)
    refine ⟨w1, ?_, fun j h1 h2 => ?_, fun j h1 => ?_, fun a h1 => by rw [a4 a h1, sm_wI_ne h1], a5⟩
    · rw [ff_wy_clear_7_f]
      unfold ff_wy_clear_7_b
      simp (disch := omega) only [u32_lit, u32_lt, if_neg, sm_wr_u, sm_bind_some, u32_add]
      exact a1
    · by_cases e : j = d
      · rw [e, a3 d (by omega), sm_wI_eq]
      · exact a2 j (by omega) h2
    · rw [a3 j (by omega), sm_wI_nj (by omega)]
theorem wy_clear {w : sm_Mem} {L : Nat} {gu : Option Nat} {gs : List Gl} (hL : L ≤ 5) : ∃ w1, ff_wy_clear (oAns gu) w = some (.null, w1) ∧ AccD w1 [] ∧ AccR w1 L gu gs [] ∧ w1.1 49 12 = oAns gu ∧ w1.1 49 3 = w.1 49 3 ∧ (∀ a, a ≠ 49 → a ≠ 53 → a ≠ 54 → w1.1 a = w.1 a) ∧ w1.2 = w.2 := by
  obtain ⟨w1, a1, a2, a3, a4, a5⟩ := wy_clear7 6 0 1000000 (sm_wI w 49 12 (oAns gu)) (by omega) (by omega)
  obtain ⟨w2, b1, b2, b3, b4, b5, b6, b7, b8, b9, b10, b11⟩ := wy_clear27 (w0 := w1) 64 0 1000000 w1 (by omega) (by omega)
  refine ⟨w2, ?_, ⟨⟨fun d hd => ?_, fun s hs => b2 s (by omega) hs⟩, fun s m hm => (by cases hm)⟩, ⟨b4, fun b hb => (by cases hb), b5, b6, fun a ha => (by cases ha), b7, (by decide : (0 : Nat) < 64), fun g hg => ⟨b8, fun s hs => (by cases hs)⟩, fun _ => Or.inl rfl, fun h => absurd rfl h⟩, ?_, ?_, fun a h1 h2 h3 => ?_, ?_⟩
  · unfold ff_wy_clear ff_wy_clear_7
    rw [sm_let_eq, sm_N_eq, u32_lit, a1]
    unfold ff_wy_clear_27
    rw [sm_N_eq, b1]
  · rw [b10 53 (by decide) (by decide)]
    exact a2 d (by omega) hd
  · rw [b9 12 (by omega), a4 49 (by decide), sm_wI_eq]
  · rw [b9 3 (by omega), a4 49 (by decide), sm_wI_nj (by decide)]
  · rw [b10 a h1 h3, a4 a h2, sm_wI_ne h1]
  · rw [b11, a5]
    rfl
/-- behind the clearing: all is gone through -/
theorem wy_all {w : sm_Mem} {L : Nat} {gu : Option Nat} {gs : List Gl} {H : HV} (hG : gs.length = L ∧ L ≤ 5 ∧ w.1 49 3 = u32 L ∧ (∀ g, gu = some g → g < 6) ∧ ∀ j g, gs[j]? = some g → w.1 50 j = u32 g.1 ∧ w.1 51 j = oAns g.2 ∧ g.1 < 6 ∧ ∀ q, g.2 = some q → q < 6) (hH : CH w H) (hok : HOk H) : ∃ w1 w2, ff_wy_clear (oAns gu) w = some (.null, w1) ∧ ff_wy_goOn 8 (u32 0) (u32 0) w1 = some (.null, w2) ∧ CH w2 H ∧ AccD w2 (tre 0 gs H) ∧ AccR w2 L gu gs (tre 0 gs H) ∧ GW w2 L gu gs ∧ RFr w w2 := by
  obtain ⟨g1, g2, g3, g4, g5⟩ := hG
  obtain ⟨w1, a1, a2, a3, a4, a5, a6, a7⟩ := wy_clear (w := w) (L := L) (gu := gu) (gs := gs) g2
  have hG1 : GW w1 L gu gs := ⟨g1, g2, by rw [a5]; exact g3, a4, g4, fun j g hg => by rw [a6 50 (by decide) (by decide) (by decide), a6 51 (by decide) (by decide) (by decide)]; exact g5 j g hg⟩
  have hl := tre_len (sil := 0) gs H hok.1
  have h7 : 7 ^ gs.length ≤ 7 ^ 5 := Nat.pow_le_pow_right (by decide) (by omega)
  have h75 : (7 : Nat) ^ 5 = 16807 := by decide
  obtain ⟨w2, b1, b2, b3, b4, b5, b6⟩ := wy_goOn gs 8 [] H [] w1 (by omega) rfl (Nat.zero_le _) hG1 (CH_fr (fun a h1 h2 => a6 a (by omega) (by omega) (by omega)) hH) hok a2 a3 (fun j x hx => by simp at hx) (fun i hi => by cases hi) (by show 0 + _ < _; omega)
  have e : (tre 0 gs H).map (fun q => [] ++ q) = tre 0 gs H := by
    show (tre 0 gs H).map (fun q => q) = _
    exact List.map_id _
  rw [e, List.nil_append] at b3 b4
  exact ⟨w1, w2, a1, b1, b2, b3, b4, hG1.w b6, RFr.trans ⟨fun a ha => a6 a (by omega) (by omega) (by omega), fun j hj => by rw [a6 36 (by decide) (by decide) (by decide)], a7⟩ (RFr.of b6)⟩
theorem wy_words_loop {c L : Nat} {gs : List Gl} {gi : Int32} (hRw : isRow c 40) (hc : c < 30) (hL : gs.length = L) (h5 : L ≤ 5) : ∀ (m k F : Nat) (w : sm_Mem), k + m = L → m < F → w.1 49 3 = u32 L → (∀ j g, gs[j]? = some g → w.1 (c + 1) j = u32 g.1 ∧ g.2 = none) → (∀ j g, j < k → gs[j]? = some g → w.1 50 j = u32 g.1 ∧ w.1 51 j = oAns g.2) → ∃ w1, ff_wy_runWords_18_f F c gi (u32 k) w = (sm_cV (ff_wy_clear gi w1) fun w2 => (sm_cV (ff_wy_goOn 8 (u32 0) (u32 0) w2) fun w4 => (some (.null, w4)))) ∧ (∀ j g, gs[j]? = some g → w1.1 50 j = u32 g.1 ∧ w1.1 51 j = oAns g.2) ∧ (∀ a, a ≠ 50 → a ≠ 51 → w1.1 a = w.1 a) ∧ w1.2 = w.2 := by
  intro m
  induction m with
  | zero =>
    intro k F w hk hF hw hg hj
    obtain ⟨F, rfl⟩ : ∃ G, F = G + 1 := ⟨F - 1, by omega⟩
    refine ⟨w, ?_, fun j g hx => hj j g (by have := (List.getElem?_eq_some_iff.mp hx).1; omega) hx, fun _ _ _ => rfl, rfl⟩
    rw [ff_wy_runWords_18_f]
    unfold ff_wy_runWords_18_b
    simp (disch := omega) only [u32_lit, hw, u32_le, if_pos]
  | succ m ih =>
    intro k F w hk hF hw hg hj
    obtain ⟨F, rfl⟩ : ∃ G, F = G + 1 := ⟨F - 1, by omega⟩
    have hkg : k < gs.length := by omega
    have e2 : gs[k]? = some gs[k] := List.getElem?_eq_getElem hkg
    obtain ⟨c1, c2⟩ := hg k _ e2
    obtain ⟨w1, a1, a2, a3, a4⟩ := ih (k + 1) F (sm_wI (sm_wI w 50 k (u32 gs[k].1)) 51 k (-u32 9)) (by omega) (by omega) (by simp (disch := omega) only [sm_wI_ne, sm_wI_nj, sm_wI_eq, sm_wA_ne, sm_wA_eq]; exact hw) (fun j g hx => by simp (disch := omega) only [sm_wI_ne, sm_wI_nj, sm_wI_eq, sm_wA_ne, sm_wA_eq]; exact hg j g hx) (fun j g hjk hx => by
      by_cases e : j = k
      · subst e
        rw [e2] at hx
        cases hx
        rw [c2]
        simp (disch := omega) only [sm_wI_ne, sm_wI_nj, sm_wI_eq, sm_wA_ne, sm_wA_eq]
        exact ⟨trivial, rfl⟩
      · simp (disch := omega) only [sm_wI_ne, sm_wI_nj, sm_wI_eq, sm_wA_ne, sm_wA_eq]
        exact hj j g (by omega) hx)
    refine ⟨w1, ?_, a2, fun a h1 h2 => by rw [a3 a h1 h2, sm_wI_ne h2, sm_wI_ne h1], a4⟩
    rw [ff_wy_runWords_18_f]
    unfold ff_wy_runWords_18_b
    simp (disch := omega) only [u32_lit, hw, u32_le, if_neg, hRw.fk, sm_bind_some, hRw.rds (show k < 40 by omega), c1, sm_wr_u, u32_add]
    exact a1
theorem wy_runWords {c L : Nat} {gs : List Gl} {gu : Option Nat} {H : HV} {w : sm_Mem} (hRw : isRow c 40) (hc : c < 30) (hL : gs.length = L) (h5 : L ≤ 5) (hw : w.1 c 1 = u32 L) (hgu : ∀ g, gu = some g → g < 6) (hg : ∀ j g, gs[j]? = some g → w.1 (c + 1) j = u32 g.1 ∧ g.2 = none ∧ g.1 < 6) (hH : CH w H) (hok : HOk H) : ∃ w1, ff_wy_runWords c (oAns gu) w = some (.null, w1) ∧ CH w1 H ∧ AccD w1 (tre 0 gs H) ∧ AccR w1 L gu gs (tre 0 gs H) ∧ GW w1 L gu gs ∧ RFr w w1 := by
  have e : (if u32 0 < (if u32 5 < u32 L then u32 5 else u32 L) then (if u32 5 < u32 L then u32 5 else u32 L) else u32 0) = u32 L := by
    simp (disch := omega) only [u32_lt, if_neg]
    by_cases h : 0 < L
    · rw [if_pos h]
    · rw [if_neg h, show L = 0 by omega]
  obtain ⟨w1, a1, a2, a3, a4⟩ := wy_words_loop (gi := oAns gu) hRw hc hL h5 L 0 1000000 (sm_wI w 49 3 (u32 L)) (by omega) (by omega) sm_wI_eq (fun j g hx => by simp (disch := omega) only [sm_wI_ne, sm_wI_nj, sm_wI_eq, sm_wA_ne, sm_wA_eq]; exact ⟨(hg j g hx).1, (hg j g hx).2.1⟩) (fun j g hj => absurd hj (Nat.not_lt_zero _))
  obtain ⟨w2, w3, b1, b2, b3, b4, b5, b6, b7⟩ := wy_all (w := w1) (gu := gu) (gs := gs) (H := H) ⟨hL, h5, by rw [a3 49 (by decide) (by decide), sm_wI_eq], hgu, fun j g hx => ⟨(a2 j g hx).1, (a2 j g hx).2, (hg j g hx).2.2, fun q hq => by rw [(hg j g hx).2.1] at hq; cases hq⟩⟩ (CH_fr (fun a h1 h2 => by rw [a3 a (by omega) (by omega), sm_wI_ne (by omega)]) hH) hok
  refine ⟨w3, ?_, b3, b4, b5, b6, RFr.trans ⟨fun a ha => by rw [a3 a (by omega) (by omega), sm_wI_ne (by omega)], fun j hj => by rw [a3 36 (by decide) (by decide), sm_wI_ne (by decide)], a4⟩ b7⟩
  unfold ff_wy_runWords ff_wy_runWords_18
  simp only [u32_lit, hRw.gI, sm_bind_some, hw, e, sm_let_eq]
  rw [sm_N_eq, a1, b1]
  simp only [sm_cV_some]
  rw [b2]
  rfl
theorem wy_pairs_loop {c L : Nat} {gs : List Gl} (hRw : isRow c 40) (hc : c < 30) (hL : gs.length = L) (h5 : L ≤ 5) : ∀ (m k F : Nat) (w : sm_Mem), k + m = L → m < F → w.1 49 3 = u32 L → (∀ j g, gs[j]? = some g → w.1 (c + 1) (2 * j) = u32 g.1 ∧ w.1 (c + 1) (2 * j + 1) = oAns g.2) → (∀ j g, j < k → gs[j]? = some g → w.1 50 j = u32 g.1 ∧ w.1 51 j = oAns g.2) → ∃ w1, ff_wy_runPairs_20_f F c (u32 k) w = (sm_cV (ff_wy_clear (-u32 9) w1) fun w2 => (sm_cV (ff_wy_goOn 8 (u32 0) (u32 0) w2) fun w4 => (some (.null, w4)))) ∧ (∀ j g, gs[j]? = some g → w1.1 50 j = u32 g.1 ∧ w1.1 51 j = oAns g.2) ∧ (∀ a, a ≠ 50 → a ≠ 51 → w1.1 a = w.1 a) ∧ w1.2 = w.2 := by
  intro m
  induction m with
  | zero =>
    intro k F w hk hF hw hg hj
    obtain ⟨F, rfl⟩ : ∃ G, F = G + 1 := ⟨F - 1, by omega⟩
    refine ⟨w, ?_, fun j g hx => hj j g (by have := (List.getElem?_eq_some_iff.mp hx).1; omega) hx, fun _ _ _ => rfl, rfl⟩
    rw [ff_wy_runPairs_20_f]
    unfold ff_wy_runPairs_20_b
    simp (disch := omega) only [u32_lit, hw, u32_le, if_pos]
  | succ m ih =>
    intro k F w hk hF hw hg hj
    obtain ⟨F, rfl⟩ : ∃ G, F = G + 1 := ⟨F - 1, by omega⟩
    have hkg : k < gs.length := by omega
    have e2 : gs[k]? = some gs[k] := List.getElem?_eq_getElem hkg
    obtain ⟨c1, c2⟩ := hg k _ e2
    obtain ⟨w1, a1, a2, a3, a4⟩ := ih (k + 1) F (sm_wI (sm_wI w 50 k (u32 gs[k].1)) 51 k (oAns gs[k].2)) (by omega) (by omega) (by simp (disch := omega) only [sm_wI_ne, sm_wI_nj, sm_wI_eq, sm_wA_ne, sm_wA_eq]; exact hw) (fun j g hx => by simp (disch := omega) only [sm_wI_ne, sm_wI_nj, sm_wI_eq, sm_wA_ne, sm_wA_eq]; exact hg j g hx) (fun j g hjk hx => by
      by_cases e : j = k
      · subst e
        rw [e2] at hx
        cases hx
        simp (disch := omega) only [sm_wI_ne, sm_wI_nj, sm_wI_eq, sm_wA_ne, sm_wA_eq, and_self]
      · simp (disch := omega) only [sm_wI_ne, sm_wI_nj, sm_wI_eq, sm_wA_ne, sm_wA_eq]
        exact hj j g (by omega) hx)
    refine ⟨w1, ?_, a2, fun a h1 h2 => by rw [a3 a h1 h2, sm_wI_ne h2, sm_wI_ne h1], a4⟩
    rw [ff_wy_runPairs_20_f]
    unfold ff_wy_runPairs_20_b
    simp (disch := omega) only [u32_lit, hw, u32_le, if_neg, hRw.fk, sm_bind_some, u32_mul, u32_add, hRw.rds (show 2 * k < 40 by omega), hRw.rds (show 2 * k + 1 < 40 by omega), c1, sm_wI_ne, sm_wI_nj, sm_wI_eq, sm_wA_ne, sm_wA_eq, c2, sm_wr_u]
    exact a1
theorem wy_runPairs {c L : Nat} {gs : List Gl} {H : HV} {w : sm_Mem} (hRw : isRow c 40) (hc : c < 30) (hL : gs.length = L) (h5 : L ≤ 5) (hw : w.1 c 1 = u32 (2 * L)) (hg : ∀ j g, gs[j]? = some g → w.1 (c + 1) (2 * j) = u32 g.1 ∧ w.1 (c + 1) (2 * j + 1) = oAns g.2 ∧ g.1 < 6 ∧ ∀ q, g.2 = some q → q < 6) (hH : CH w H) (hok : HOk H) : ∃ w1, ff_wy_runPairs c w = some (.null, w1) ∧ CH w1 H ∧ AccD w1 (tre 0 gs H) ∧ AccR w1 L none gs (tre 0 gs H) ∧ GW w1 L none gs ∧ RFr w w1 := by
  have e2 : u32 (2 * L) / u32 2 = u32 L := by
    rw [u32_div (by omega) (by omega), show 2 * L / 2 = L by omega]
  have hz : (u32 2 = u32 0) = False := eq_false (by decide)
  have e : (if u32 0 < (if u32 5 < u32 L then u32 5 else u32 L) then (if u32 5 < u32 L then u32 5 else u32 L) else u32 0) = u32 L := by
    simp (disch := omega) only [u32_lt, if_neg]
    by_cases h : 0 < L
    · rw [if_pos h]
    · rw [if_neg h, show L = 0 by omega]
  obtain ⟨w1, a1, a2, a3, a4⟩ := wy_pairs_loop hRw hc hL h5 L 0 1000000 (sm_wI w 49 3 (u32 L)) (by omega) (by omega) sm_wI_eq (fun j g hx => by simp (disch := omega) only [sm_wI_ne, sm_wI_nj, sm_wI_eq, sm_wA_ne, sm_wA_eq]; exact ⟨(hg j g hx).1, (hg j g hx).2.1⟩) (fun j g hj => absurd hj (Nat.not_lt_zero _))
  obtain ⟨w2, w3, b1, b2, b3, b4, b5, b6, b7⟩ := wy_all (w := w1) (gu := none) (gs := gs) (H := H) ⟨hL, h5, by rw [a3 49 (by decide) (by decide), sm_wI_eq], fun g hg => (by cases hg), fun j g hx => ⟨(a2 j g hx).1, (a2 j g hx).2, (hg j g hx).2.2.1, (hg j g hx).2.2.2⟩⟩ (CH_fr (fun a h1 h2 => by rw [a3 a (by omega) (by omega), sm_wI_ne (by omega)]) hH) hok
  refine ⟨w3, ?_, b3, b4, b5, b6, RFr.trans ⟨fun a ha => by rw [a3 a (by omega) (by omega), sm_wI_ne (by omega)], fun j hj => by rw [a3 36 (by decide) (by decide), sm_wI_ne (by decide)], a4⟩ b7⟩
  unfold ff_wy_runPairs ff_wy_runPairs_20
  simp only [u32_lit, hRw.gI, sm_bind_some, hw, hz, if_false, e2, e, sm_let_eq]
  have b1 : ff_wy_clear (-u32 9) w1 = some (.null, w2) := b1
  rw [sm_N_eq, a1, b1]
  simp only [sm_cV_some]
  rw [b2]
  rfl

