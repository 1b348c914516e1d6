/-! pure: the law's loop; the pure statement -/
def laQ (o : sm_R) : Prop := ∃ w1, o = some (.int (u32 1), w1)
theorem la_int {c m self : sm_Mem → sm_R} {w : sm_Mem} (hb : Both c m R w) (hv : RV vI (c w)) (hself : ∀ w1, R w1 → laQ (self w1)) : laQ (sm_cI (c w) fun x4 w5 => sm_cI (m w5) fun x8 w9 => if x4 = x8 then self w9 else some (.int (u32 0), w9)) := by
  obtain ⟨v, w1, w2, h1, h2, h3⟩ := hb
  obtain ⟨x, rfl⟩ := hv v w1 h1
  rw [h1, cI_, h2, cI_, if_pos rfl]
  exact hself w2 h3
theorem la_long {c m self : sm_Mem → sm_R} {w : sm_Mem} (hb : Both c m R w) (hv : RV vL (c w)) (hself : ∀ w1, R w1 → laQ (self w1)) : laQ (sm_cL (c w) fun x4 w5 => sm_cL (m w5) fun x8 w9 => if lg_cmp x4 x8 = u32 0 then self w9 else some (.int (u32 0), w9)) := by
  obtain ⟨v, w1, w2, h1, h2, h3⟩ := hb
  obtain ⟨x, rfl⟩ := hv v w1 h1
  rw [h1, cL_, h2, cL_, if_pos (by rw [lg_eq0])]
  exact hself w2 h3
theorem la_cond {L i : Nat} (hL : L ≤ 3072) (hi : i ≤ 100000) : (Int32.ofNat L - u32 6 < u32 i) = (L < i + 6) := by
  show (u32 L - u32 6 < u32 i) = _
  by_cases h : 6 ≤ L
  · rw [u32_sub h, u32_lt (by omega) (by omega)]
    exact propext ⟨fun _ => by omega, fun _ => by omega⟩
  · rw [Int32.lt_iff_toInt_lt, u32_toInt (by omega)]
    have e : (u32 L - u32 6).toInt = (L : Int) - 6 := by
      rcases (show L = 0 ∨ L = 1 ∨ L = 2 ∨ L = 3 ∨ L = 4 ∨ L = 5 by omega) with rfl | rfl | rfl | rfl | rfl | rfl <;> rfl
    rw [e]
    exact propext ⟨fun _ => by omega, fun _ => by omega⟩
theorem la_body {E : Nat × (Nat → Int32)} {self : Int32 → sm_Mem → sm_R} {i : Nat} {w : sm_Mem} (hE : E.1 ≤ 3072) (hi : i + 6 ≤ E.1) (h : R w) (hs : ∀ w1, R w1 → laQ (self (u32 (i + 6)) w1)) : laQ (ff_la_law_18_b E self (u32 i) w) := by
  have h0 : sm_sc E (u32 i) = some (E.2 i) := sm_sc_u (by omega) (by omega)
  have h1 : sm_sc E (u32 (i + 1)) = some (E.2 (i + 1)) := sm_sc_u (by omega) (by omega)
  have h2 : sm_sc E (u32 (i + 2)) = some (E.2 (i + 2)) := sm_sc_u (by omega) (by omega)
  have h3 : sm_sc E (u32 (i + 3)) = some (E.2 (i + 3)) := sm_sc_u (by omega) (by omega)
  have h4 : sm_sc E (u32 (i + 4)) = some (E.2 (i + 4)) := sm_sc_u (by omega) (by omega)
  have h5 : sm_sc E (u32 (i + 5)) = some (E.2 (i + 5)) := sm_sc_u (by omega) (by omega)
  have e : (Int32.ofNat E.1 - u32 6 < u32 i) = False := by
    rw [la_cond hE (by omega)]
    exact eq_false (by omega)
  unfold ff_la_law_18_b
  simp only [u32_lit, u32_add, e, if_false, h0, h1, h2, h3, h4, h5, bs_]
  refine sw_all (Q := laQ) (hs w h) ?_
  refine all_cons (la_int (BothR_cells h (op_row h.1)) rv_ho_row hs) ?_
  refine all_cons (la_int (BothR_cells h (op_lay h.1)) rv_ho_lay hs) ?_
  refine all_cons (la_int (BothR_cells h (op_at h.1)) rv_ho_at hs) ?_
  refine all_cons (la_int (BothR_cells h (op_tear h.1)) rv_ho_tear hs) ?_
  refine all_cons (la_int (BothR_cells h (op_copy h.1)) rv_ho_copy hs) ?_
  refine all_cons (la_int (BothR_cells h (op_mean h.1)) rv_ho_mean hs) ?_
  refine all_cons (la_int (BothR_cells h (op_text h.1)) rv_ho_text hs) ?_
  refine all_cons (la_int (BothR_cells h (op_put h.1)) rv_ho_put hs) ?_
  refine all_cons (la_int (BothR_cells h (op_fault h.1)) rv_ho_fault hs) ?_
  refine all_cons (la_int (op_house h) rv_ho_house hs) ?_
  refine all_cons (la_int (op_speaker h) rv_ho_speaker hs) ?_
  refine all_cons (la_int (op_mark h) rv_ho_mark hs) ?_
  refine all_cons (la_int (op_say h) rv_ho_say hs) ?_
  refine all_cons (la_int (op_end h) rv_ho_end hs) ?_
  refine all_cons (la_int (op_hour h) rv_ho_hour hs) ?_
  refine all_cons (la_int (op_walk h) rv_ho_walk hs) ?_
  refine all_cons (la_int (op_undo h) rv_ho_undo hs) ?_
  refine all_cons (la_int (op_keep h) rv_ho_keep hs) ?_
  refine all_cons (la_int (op_on h) rv_ho_on hs) ?_
  refine all_cons (la_int (op_who h) rv_ho_who hs) ?_
  refine all_cons (la_int (op_what h) rv_ho_what hs) ?_
  refine all_cons (la_int (op_said h) rv_ho_said hs) ?_
  refine all_cons (la_int (op_ways h) rv_ho_ways hs) ?_
  refine all_cons (la_int (op_few h) rv_ho_few hs) ?_
  refine all_cons (la_int (op_far h) rv_ho_far hs) ?_
  refine all_cons (la_int (op_dumb h) rv_ho_dumb hs) ?_
  refine all_cons (la_int (op_longest h) rv_ho_longest hs) ?_
  refine all_cons (la_int (op_heard h) rv_ho_heard hs) ?_
  refine all_cons (la_int (op_sure h) rv_ho_sure hs) ?_
  refine all_cons (la_int (op_kinds h) rv_ho_kinds hs) ?_
  refine all_cons (la_int (op_test h) rv_ho_test hs) ?_
  refine all_cons (la_int (op_fourth h) rv_ho_fourth hs) ?_
  refine all_cons (la_int (op_off h) rv_ho_off hs) ?_
  refine all_cons (la_int (op_struck h) rv_ho_struck hs) ?_
  refine all_cons (la_int (op_odds h) rv_ho_odds hs) ?_
  refine all_cons (la_int (op_mid h) rv_ho_mid hs) ?_
  refine all_cons (la_int (op_lots h) rv_ho_lots hs) ?_
  refine all_cons (la_int (op_asked h) rv_ho_asked hs) ?_
  refine all_cons (la_long (op_upper h) rv_ho_upper hs) ?_
  refine all_cons (la_long (op_lower h) rv_ho_lower hs) ?_
  refine all_cons (la_int (op_count h) rv_ho_count hs) ?_
  refine all_cons (la_int (op_finding h) rv_ho_finding hs) ?_
  refine all_cons (la_int (op_findings h) rv_ho_findings hs) ?_
  refine all_cons (la_long (op_digest h) rv_ho_digest hs) ?_
  exact all_nil
theorem la_loop {E : Nat × (Nat → Int32)} (hE : E.1 ≤ 3072) : ∀ (m i F : Nat) (w : sm_Mem), E.1 < i + 6 * m + 6 → i ≤ 3072 → m < F → R w → laQ (ff_la_law_18_f E F (u32 i) w) := by
  have stop : ∀ (i F : Nat) (w : sm_Mem), E.1 < i + 6 → i ≤ 3072 → laQ (ff_la_law_18_f E (F + 1) (u32 i) w) := fun i F w h hi => by
    refine ⟨w, ?_⟩
    have e : (Int32.ofNat E.1 - u32 6 < u32 i) = True := by
      rw [la_cond hE (by omega)]
      exact eq_true h
    rw [ff_la_law_18_f]
    unfold ff_la_law_18_b
    simp only [u32_lit, e, if_true]
  intro m
  induction m with
  | zero =>
    intro i F w hm hi hF h
    obtain ⟨F, rfl⟩ : ∃ G, F = G + 1 := ⟨F - 1, by omega⟩
    exact stop i F w (by omega) hi
  | succ m ih =>
    intro i F w hm hi hF h
    obtain ⟨F, rfl⟩ : ∃ G, F = G + 1 := ⟨F - 1, by omega⟩
    by_cases hc : E.1 < i + 6
    · exact stop i F w hc hi
    · rw [ff_la_law_18_f]
      exact la_body hE (by omega) h (fun w1 h1 => ih (i + 6) F w1 (by omega) (by omega) (by omega) h1)
/-! at first -/
set_option maxRecDepth 100000 in
theorem m0_rows : RRows sm_m0 := by
  intro r hr
  rcases (show r = 0 ∨ r = 1 ∨ r = 2 ∨ r = 3 ∨ r = 4 ∨ r = 5 by omega) with rfl | rfl | rfl | rfl | rfl | rfl <;> exact RRow.mk_none rfl rfl
set_option maxRecDepth 100000 in
theorem m0_texts : RTexts sm_m0 := by
  intro r hr
  have key : ∀ r, sm_m0.1 (15 + 2 * r) 1 = -u32 9 → sm_m0.1 69 r = -u32 1 → RText sm_m0 r := fun r h1 h2 => ⟨none, h1, h2, fun n h => by cases h⟩
  rcases (show r = 0 ∨ r = 1 ∨ r = 2 ∨ r = 3 by omega) with rfl | rfl | rfl | rfl <;> exact key _ rfl rfl
set_option maxRecDepth 100000 in
theorem m0_told : RTold sm_m0 := by
  refine ⟨rfl, rfl, rfl, rfl, fun f hf => ?_⟩
  rcases (show f = 0 ∨ f = 1 ∨ f = 2 ∨ f = 3 ∨ f = 4 ∨ f = 5 by omega) with rfl | rfl | rfl | rfl | rfl | rfl <;> rfl
def m0_B : HBase := (0, fun _ => 0, fun _ => 0, fun _ => 0, fun _ => 0)
set_option maxRecDepth 100000 in
theorem m0_house : RHs sm_m0 m0_B [] := by
  refine ⟨⟨Nat.zero_le _, fun i hi => absurd hi (Nat.not_lt_zero _)⟩, fun i hi => absurd hi (Nat.not_lt_zero _), fun i hi => absurd hi (Nat.not_lt_zero _), Nat.zero_le _, trivial, ⟨⟨rfl, fun i hi => absurd hi (Nat.not_lt_zero _), rfl, rfl, trivial⟩, rfl⟩, ⟨rfl, trivial⟩, ⟨rfl, ⟨⟨rfl, fun i hi => absurd hi (Nat.not_lt_zero _), rfl, rfl, trivial⟩, rfl⟩, trivial⟩, fun k hk => Or.inl ?_⟩
  rcases (show k = 0 ∨ k = 1 ∨ k = 2 by omega) with rfl | rfl | rfl <;> exact ⟨rfl, rfl⟩
theorem m0_R : R sm_m0 := ⟨⟨m0_rows, m0_texts, m0_told⟩, m0_B, [], m0_house⟩
theorem sm_pure : ∀ E : Nat × (Nat → Int32), E.1 ≤ 3072 → ∃ w1 : sm_Mem, ff_la_law E sm_m0 = some (.int 1, w1) := by
  intro E hE
  obtain ⟨w1, h1⟩ := la_loop hE 512 0 1000000 sm_m0 (by omega) (by omega) (by omega) m0_R
  refine ⟨w1, ?_⟩
  unfold ff_la_law ff_la_law_18
  rw [sm_N_eq]
  exact h1
