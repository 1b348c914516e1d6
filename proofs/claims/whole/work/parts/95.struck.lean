/-! pure: struck dumb by turns -/
def silB (H : HV) : Nat → Nat → Bool
  | _, 0 => true
  | i, m + 1 => if sayF H i = u32 0 then silB H (i + 1) m else false
def goV (f : HV → Int32) (H : HV) : Nat → Nat → Bool → Int32
  | _, 0, lost => if lost = true then u32 1 else -u32 9
  | k, m + 1, lost => if canV H (k / 6) (k % 6) = true then (if f (pushV H (k / 6) (k % 6)) = u32 1 then u32 0 else if f (pushV H (k / 6) (k % 6)) = u32 0 then goV f H (k + 1) m lost else goV f H (k + 1) m false) else goV f H (k + 1) m lost
def outV : Nat → HV → Int32
  | 0, _ => -u32 9
  | 1, H => if silB H 0 (hN H) = true then u32 1 else -u32 9
  | t + 2, H => goV (outV (t + 1)) H 0 (6 * hN H) true
theorem u9n1 : (-u32 9 = u32 1) = False := eq_false (by decide)
theorem u9n0 : (-u32 9 = u32 0) = False := eq_false (by decide)
theorem hs_isSilenced {H : HV} {w : sm_Mem} (h : CH w H) (hok : HOk H) : ff_hs_isSilenced w = some (.int (u32 (silB H 0 (hN H)).toNat), w) := by
  have h6 := hok.1
  have loop : ∀ (m i F : Nat), i + m = hN H → m < F → ff_hs_isSilenced_2_f F (u32 i) w = some (.int (u32 (silB H i m).toNat), w) := by
    intro m
    induction m with
    | zero =>
      intro i F hm hF
      obtain ⟨F, rfl⟩ : ∃ G, F = G + 1 := ⟨F - 1, by omega⟩
      rw [ff_hs_isSilenced_2_f]
      unfold ff_hs_isSilenced_2_b
      simp (disch := omega) only [u32_lit, h.1, u32_le, if_pos]
      rfl
    | succ m ih =>
      intro i F hm hF
      obtain ⟨F, rfl⟩ : ∃ G, F = G + 1 := ⟨F - 1, by omega⟩
      rw [ff_hs_isSilenced_2_f, silB]
      unfold ff_hs_isSilenced_2_b
      simp (disch := omega) only [u32_lit, h.1, u32_le, if_neg, hs_sayable h hok (show i < hN H by omega), cI_, u32_add]
      by_cases hs : sayF H i = u32 0
      · rw [if_pos hs, if_pos hs]
        exact ih (i + 1) F (by omega) (by omega)
      · rw [if_neg hs, if_neg hs]
        rfl
  unfold ff_hs_isSilenced ff_hs_isSilenced_2
  rw [sm_N_eq]
  exact loop (hN H) 0 1000000 (by omega) (by omega)
theorem ho_outcome : ∀ (t k : Nat) (H : HV) (w : sm_Mem), t < k → t ≤ 3 → CH w H → HOk H → ∃ w1, ff_ho_outcome k (u32 t) w = some (.int (outV t H), w1) ∧ CH w1 H ∧ SFr w w1 := by
  intro t
  induction t with
  | zero =>
    intro k H w hk ht hC hok
    obtain ⟨k, rfl⟩ : ∃ G, k = G + 1 := ⟨k - 1, by omega⟩
    refine ⟨w, ?_, hC, SFr.refl⟩
    have e : (u32 0 < u32 0) = False := eq_false (by decide)
    rw [ff_ho_outcome, outV]
    unfold ff_ho_outcome_0
    simp only [u32_lit, e, if_false]
  | succ t iht =>
    intro k H w hk ht hC hok
    obtain ⟨k, rfl⟩ : ∃ G, k = G + 1 := ⟨k - 1, by omega⟩
    have h6 := hok.1
    cases t with
    | zero =>
      refine ⟨w, ?_, hC, SFr.refl⟩
      have e : (u32 0 < u32 (0 + 1)) = True := eq_true (by decide)
      have e1 : (u32 (0 + 1) = u32 1) = True := eq_true rfl
      rw [ff_ho_outcome, outV]
      unfold ff_ho_outcome_0
      simp only [u32_lit, e, e1, if_true, hs_isSilenced hC hok, cI_, u32_bool_eq0]
      cases silB H 0 (hN H) <;> rfl
    | succ t =>
      have inner : ∀ (self : Int32 → Int32 → Int32 → sm_Mem → sm_R) (i : Nat), i < hN H → (∀ (lost : Bool) (w0 : sm_Mem), CH w0 H → ∃ w1, self (u32 (t + 1 + 1)) (u32 lost.toNat) (u32 (i + 1)) w0 = some (.int (goV (outV (t + 1)) H (6 * (i + 1)) (6 * (hN H - (i + 1))) lost), w1) ∧ CH w1 H ∧ SFr w0 w1) → ∀ (m x F : Nat) (lost : Bool) (w0 : sm_Mem), x + m = 6 → m < F → CH w0 H → ∃ w1, ff_ho_outcome_41_f (ff_ho_outcome k) self F (u32 (t + 1 + 1)) (u32 lost.toNat) (u32 i) (u32 x) w0 = some (.int (goV (outV (t + 1)) H (6 * i + x) (m + 6 * (hN H - (i + 1))) lost), w1) ∧ CH w1 H ∧ SFr w0 w1 := by
        intro self i hi hself m
        induction m with
        | zero =>
          intro x F lost w0 hm hF hC0
          obtain ⟨F, rfl⟩ : ∃ G, F = G + 1 := ⟨F - 1, by omega⟩
          obtain ⟨w1, a1, a2, a3⟩ := hself lost w0 hC0
          refine ⟨w1, ?_, a2, a3⟩
          rw [ff_ho_outcome_41_f, show 6 * i + x = 6 * (i + 1) by omega, Nat.zero_add, ← a1]
          unfold ff_ho_outcome_41_b
          simp (disch := omega) only [u32_lit, u32_le, if_pos, u32_add]
        | succ m ihm =>
          intro x F lost w0 hm hF hC0
          obtain ⟨F, rfl⟩ : ∃ G, F = G + 1 := ⟨F - 1, by omega⟩
          have hx : x < 6 := by omega
          have ed : (6 * i + x) / 6 = i := by omega
          have em : (6 * i + x) % 6 = x := by omega
          have hcan := ho_can hC0 hok hi hx
          rw [show m + 1 + 6 * (hN H - (i + 1)) = (m + 6 * (hN H - (i + 1))) + 1 by omega, goV, ed, em]
          by_cases hs : canV H i x = true
          · obtain ⟨c8, cb⟩ := canV_free hs
            obtain ⟨w2, p1, p2, p3⟩ := hs_push (x := x) hC0 hok hi c8 cb
            obtain ⟨w3, r1, r2, r3⟩ := iht k (pushV H i x) w2 (by omega) (by omega) p2 (pushV_ok hok hi hx c8)
            obtain ⟨w4, s1, s2, s3⟩ := hs_pop r2 hok hi c8 cb
            have hf : SFr w0 w4 := (p3.trans r3).trans s3
            rw [hs] at hcan
            have step : ff_ho_outcome_41_f (ff_ho_outcome k) self (F + 1) (u32 (t + 1 + 1)) (u32 lost.toNat) (u32 i) (u32 x) w0 = (if outV (t + 1) (pushV H i x) = u32 1 then some (.int (u32 0), w4) else (if outV (t + 1) (pushV H i x) = u32 0 then ff_ho_outcome_41_f (ff_ho_outcome k) self F (u32 (t + 1 + 1)) (u32 lost.toNat) (u32 i) (u32 (x + 1)) w4 else ff_ho_outcome_41_f (ff_ho_outcome k) self F (u32 (t + 1 + 1)) (u32 0) (u32 i) (u32 (x + 1)) w4)) := by
              rw [ff_ho_outcome_41_f]
              unfold ff_ho_outcome_41_b
              simp (disch := omega) only [u32_lit, u32_le, if_neg, hcan, cI_, u32_bool_eq0, p1, cV_, u32_sub, Nat.add_sub_cancel, r1, s1, u32_add]
              rw [if_neg (by decide)]
            rw [hs, if_pos rfl]
            by_cases o1 : outV (t + 1) (pushV H i x) = u32 1
            · rw [if_pos o1] at step ⊢
              exact ⟨w4, step, s2, hf⟩
            · rw [if_neg o1] at step ⊢
              by_cases o0 : outV (t + 1) (pushV H i x) = u32 0
              · rw [if_pos o0] at step ⊢
                obtain ⟨w5, b1, b2, b3⟩ := ihm (x + 1) F lost w4 (by omega) (by omega) s2
                rw [show 6 * i + (x + 1) = 6 * i + x + 1 by omega] at b1
                exact ⟨w5, step.trans b1, b2, hf.trans b3⟩
              · rw [if_neg o0] at step ⊢
                obtain ⟨w5, b1, b2, b3⟩ := ihm (x + 1) F false w4 (by omega) (by omega) s2
                rw [show 6 * i + (x + 1) = 6 * i + x + 1 by omega] at b1
                exact ⟨w5, step.trans b1, b2, hf.trans b3⟩
          · rw [if_neg hs]
            have hs := eq_false_of_ne_true hs
            rw [hs] at hcan
            obtain ⟨w5, b1, b2, b3⟩ := ihm (x + 1) F lost w0 (by omega) (by omega) hC0
            rw [show 6 * i + (x + 1) = 6 * i + x + 1 by omega] at b1
            refine ⟨w5, ?_, b2, b3⟩
            rw [← b1, ff_ho_outcome_41_f]
            unfold ff_ho_outcome_41_b
            simp (disch := omega) only [u32_lit, u32_le, if_neg, hcan, cI_, u32_bool_eq0, if_true, u32_add]
      have outer : ∀ (m i F : Nat) (lost : Bool) (w0 : sm_Mem), i + m = hN H → m < F → CH w0 H → ∃ w1, ff_ho_outcome_30_f (ff_ho_outcome k) F (u32 (t + 1 + 1)) (u32 lost.toNat) (u32 i) w0 = some (.int (goV (outV (t + 1)) H (6 * i) (6 * m) lost), w1) ∧ CH w1 H ∧ SFr w0 w1 := by
        intro m
        induction m with
        | zero =>
          intro i F lost w0 hm hF hC0
          obtain ⟨F, rfl⟩ : ∃ G, F = G + 1 := ⟨F - 1, by omega⟩
          refine ⟨w0, ?_, hC0, SFr.refl⟩
          rw [ff_ho_outcome_30_f, Nat.mul_zero, goV]
          unfold ff_ho_outcome_30_b
          simp (disch := omega) only [u32_lit, hC0.1, u32_le, if_pos, u32_bool_eq0]
          cases lost <;> rfl
        | succ m ihm =>
          intro i F lost w0 hm hF hC0
          obtain ⟨F, rfl⟩ : ∃ G, F = G + 1 := ⟨F - 1, by omega⟩
          have hnm : hN H - (i + 1) = m := by omega
          obtain ⟨w1, a1, a2, a3⟩ := inner (ff_ho_outcome_30_f (ff_ho_outcome k) F) i (by omega) (fun lost w0 hC0 => by
            rw [hnm]
            exact ihm (i + 1) F lost w0 (by omega) (by omega) hC0) 6 0 1000000 lost w0 (by omega) (by omega) hC0
          refine ⟨w1, ?_, a2, a3⟩
          rw [hnm, Nat.add_zero, show 6 + 6 * m = 6 * (m + 1) by omega] at a1
          rw [ff_ho_outcome_30_f]
          unfold ff_ho_outcome_30_b
          simp (disch := omega) only [u32_lit, hC0.1, u32_le, if_neg]
          unfold ff_ho_outcome_41
          rw [sm_N_eq]
          exact a1
      obtain ⟨w1, a1, a2, a3⟩ := outer (hN H) 0 1000000 true w (by omega) (by omega) hC
      refine ⟨w1, ?_, a2, a3⟩
      have e : (u32 0 < u32 (t + 1 + 1)) = True := by
        rw [u32_lt (by omega) (by omega)]
        exact eq_true (by omega)
      have e1 : (u32 (t + 1 + 1) = u32 1) = False := by
        rw [u32_eq (by omega) (by omega)]
        exact eq_false (by omega)
      rw [ff_ho_outcome, outV]
      unfold ff_ho_outcome_0 ff_ho_outcome_30
      simp only [u32_lit, e, e1, if_true, if_false]
      rw [sm_N_eq]
      exact a1
/-! two turns, by the reference -/
def twoV (H : HV) : Nat → Nat → Int32
  | _, 0 => -u32 9
  | k, m + 1 => if canV H (k / 6) (k % 6) = true then (if silB (pushV H (k / 6) (k % 6)) 0 (hN H) = true then u32 0 else twoV H (k + 1) m) else twoV H (k + 1) m
theorem out1 {H : HV} (i x : Nat) : outV 1 (pushV H i x) = if silB (pushV H i x) 0 (hN H) = true then u32 1 else -u32 9 := rfl
theorem goV_false {H : HV} : ∀ (m k : Nat), goV (outV 1) H k m false = twoV H k m
  | 0, k => rfl
  | m + 1, k => by
    rw [goV, twoV, goV_false m (k + 1), out1]
    by_cases hc : canV H (k / 6) (k % 6) = true
    · rw [if_pos hc, if_pos hc]
      by_cases hs : silB (pushV H (k / 6) (k % 6)) 0 (hN H) = true
      · rw [if_pos hs, if_pos hs, if_pos rfl]
      · rw [if_neg hs, if_neg hs, if_neg (by decide), if_neg (by decide)]
    · rw [if_neg hc, if_neg hc]
theorem goV_true {H : HV} : ∀ (m k : Nat), ((∀ j, k ≤ j → j < k + m → canV H (j / 6) (j % 6) = false) → goV (outV 1) H k m true = u32 1) ∧ ((∃ j, k ≤ j ∧ j < k + m ∧ canV H (j / 6) (j % 6) = true) → goV (outV 1) H k m true = twoV H k m)
  | 0, k => ⟨fun _ => rfl, fun ⟨j, h1, h2, _⟩ => absurd h1 (by omega)⟩
  | m + 1, k => by
    obtain ⟨i1, i2⟩ := goV_true (H := H) m (k + 1)
    constructor
    · intro h
      rw [goV, h k (Nat.le_refl _) (by omega), if_neg (by decide)]
      exact i1 (fun j h1 h2 => h j (by omega) (by omega))
    · rintro ⟨j, h1, h2, h3⟩
      rw [goV, twoV, out1]
      by_cases hc : canV H (k / 6) (k % 6) = true
      · rw [if_pos hc, if_pos hc]
        by_cases hs : silB (pushV H (k / 6) (k % 6)) 0 (hN H) = true
        · rw [if_pos hs, if_pos hs, if_pos rfl]
        · rw [if_neg hs, if_neg hs, if_neg (by decide), if_neg (by decide), goV_false]
      · rw [if_neg hc, if_neg hc]
        refine i2 ⟨j, ?_, by omega, h3⟩
        by_cases e : j = k
        · rw [e] at h3; exact absurd h3 hc
        · omega
theorem sayF_0 {H : HV} {i : Nat} : sayF H i = u32 0 ↔ ∀ x, x < 6 → canV H i x = false := by
  unfold sayF
  have key : ∀ a b c d e f : Bool, (orF (fun x => match x with | 0 => a | 1 => b | 2 => c | 3 => d | 4 => e | _ => f) 0 6 (u32 0) = u32 0) ↔ (a = false ∧ b = false ∧ c = false ∧ d = false ∧ e = false ∧ f = false) := by decide +kernel
  have h := key (canV H i 0) (canV H i 1) (canV H i 2) (canV H i 3) (canV H i 4) (canV H i 5)
  have e : orF (canV H i) 0 6 (u32 0) = orF (fun x => match x with | 0 => canV H i 0 | 1 => canV H i 1 | 2 => canV H i 2 | 3 => canV H i 3 | 4 => canV H i 4 | _ => canV H i 5) 0 6 (u32 0) := by
    refine orF_congr _ _ _ (fun j h1 h2 => ?_)
    rcases (show j = 0 ∨ j = 1 ∨ j = 2 ∨ j = 3 ∨ j = 4 ∨ j = 5 by omega) with rfl | rfl | rfl | rfl | rfl | rfl <;> rfl
  rw [e, h]
  constructor
  · rintro ⟨h0, h1, h2, h3, h4, h5⟩ x hx
    rcases (show x = 0 ∨ x = 1 ∨ x = 2 ∨ x = 3 ∨ x = 4 ∨ x = 5 by omega) with rfl | rfl | rfl | rfl | rfl | rfl <;> assumption
  · intro h
    exact ⟨h 0 (by decide), h 1 (by decide), h 2 (by decide), h 3 (by decide), h 4 (by decide), h 5 (by decide)⟩
theorem silB_iff {H : HV} : ∀ (m i : Nat), silB H i m = true ↔ ∀ j, i ≤ j → j < i + m → sayF H j = u32 0
  | 0, i => ⟨fun _ j h1 h2 => absurd h1 (by omega), fun _ => rfl⟩
  | m + 1, i => by
    rw [silB]
    by_cases h : sayF H i = u32 0
    · rw [if_pos h, silB_iff m (i + 1)]
      constructor
      · intro h2 j h3 h4
        by_cases e : j = i
        · rw [e]; exact h
        · exact h2 j (by omega) (by omega)
      · exact fun h2 j h3 h4 => h2 j (by omega) (by omega)
    · rw [if_neg h]
      exact ⟨fun h2 => (by cases h2), fun h2 => absurd (h2 i (Nat.le_refl _) (by omega)) h⟩
theorem outV_2 (H : HV) : outV 2 H = if silB H 0 (hN H) = true then u32 1 else twoV H 0 (6 * hN H) := by
  show goV (outV 1) H 0 (6 * hN H) true = _
  obtain ⟨g1, g2⟩ := goV_true (H := H) (6 * hN H) 0
  by_cases h : silB H 0 (hN H) = true
  · rw [if_pos h]
    refine g1 (fun j _ hj => ?_)
    exact sayF_0.mp ((silB_iff _ _).mp h (j / 6) (Nat.zero_le _) (by omega)) (j % 6) (Nat.mod_lt _ (by decide))
  · rw [if_neg h]
    refine g2 ?_
    refine Classical.byContradiction (fun hn => h ((silB_iff _ _).mpr (fun i _ hi => sayF_0.mpr (fun x hx => ?_))))
    refine eq_false_of_ne_true (fun hc => hn ⟨6 * i + x, Nat.zero_le _, by omega, ?_⟩)
    rw [show (6 * i + x) / 6 = i by omega, show (6 * i + x) % 6 = x by omega]
    exact hc
theorem mo_isDumb {H : HV} {b : Nat} {w : sm_Mem} (h : MH w b H) (hok : HOk H) (hb : b ≤ 5152) : ff_mo_isDumb (u32 b) w = some (.int (u32 (silB H 0 (hN H)).toNat), w) := by
  have h6 := hok.1
  have dead : ∀ (m i F : Nat), i + m = hN H → m < F → ff_mo_isDumb_4_f F (u32 b) (u32 0) (u32 i) w = some (.int (u32 0), w) := by
    intro m
    induction m with
    | zero =>
      intro i F hm hF
      obtain ⟨F, rfl⟩ : ∃ G, F = G + 1 := ⟨F - 1, by omega⟩
      rw [ff_mo_isDumb_4_f]
      unfold ff_mo_isDumb_4_b
      simp (disch := omega) only [u32_lit, h.1, u32_le, if_pos, rz_0]
    | succ m ih =>
      intro i F hm hF
      obtain ⟨F, rfl⟩ : ∃ G, F = G + 1 := ⟨F - 1, by omega⟩
      rw [ff_mo_isDumb_4_f]
      unfold ff_mo_isDumb_4_b ff_mo_isDumb_29
      simp (disch := omega) only [u32_lit, h.1, u32_le, if_neg, if_true, u32_add]
      exact ih (i + 1) F (by omega) (by omega)
  have loop : ∀ (m i F : Nat), i + m = hN H → m < F → ff_mo_isDumb_4_f F (u32 b) (u32 1) (u32 i) w = some (.int (u32 (silB H i m).toNat), w) := by
    intro m
    induction m with
    | zero =>
      intro i F hm hF
      obtain ⟨F, rfl⟩ : ∃ G, F = G + 1 := ⟨F - 1, by omega⟩
      rw [ff_mo_isDumb_4_f]
      unfold ff_mo_isDumb_4_b
      simp (disch := omega) only [u32_lit, h.1, u32_le, if_pos, rz_1]
      rfl
    | succ m ih =>
      intro i F hm hF
      obtain ⟨F, rfl⟩ : ∃ G, F = G + 1 := ⟨F - 1, by omega⟩
      have hd := dead m (i + 1) F (by omega) (by omega)
      rw [ff_mo_isDumb_4_f, silB]
      unfold ff_mo_isDumb_4_b ff_mo_isDumb_29
      simp (disch := omega) only [u32_lit, h.1, u32_le, if_neg, u10, if_false, mo_whatCan h hok hb (show i < hN H by omega), cI_, u32_add]
      by_cases hs : sayF H i = u32 0
      · rw [if_pos hs, if_pos hs]
        exact ih (i + 1) F (by omega) (by omega)
      · rw [if_neg hs, if_neg hs]
        exact hd
  unfold ff_mo_isDumb ff_mo_isDumb_4
  rw [sm_N_eq]
  exact loop (hN H) 0 1000000 (by omega) (by omega)
theorem mo_copyPart {s t : Nat} {w : sm_Mem} (hst : s + 32 ≤ t) (ht : t + 32 ≤ 5184) : ∃ w1, ff_mo_copyPart (u32 s) (u32 t) w = some (.null, w1) ∧ (∀ j, j < 32 → w1.1 63 (t + j) = w.1 63 (s + j)) ∧ QFr (fun j => j < t ∨ t + 32 ≤ j) w w1 := by
  have loop : ∀ (m i F : Nat) (w0 : sm_Mem), i + m = 32 → m < F → (∀ j, j < 32 → w0.1 63 (s + j) = w.1 63 (s + j)) → (∀ j, j < i → w0.1 63 (t + j) = w.1 63 (s + j)) → ∃ w1, ff_mo_copyPart_2_f F (u32 s) (u32 t) (u32 i) w0 = some (.null, w1) ∧ (∀ j, j < 32 → w1.1 63 (t + j) = w.1 63 (s + j)) ∧ QFr (fun j => j < t ∨ t + 32 ≤ j) w0 w1 := by
    intro m
    induction m with
    | zero =>
      intro i F w0 hm hF h1 h2
      obtain ⟨F, rfl⟩ : ∃ G, F = G + 1 := ⟨F - 1, by omega⟩
      refine ⟨w0, ?_, fun j hj => h2 j (by omega), QFr.refl⟩
      rw [ff_mo_copyPart_2_f]
      unfold ff_mo_copyPart_2_b
      simp (disch := omega) only [u32_lit, u32_le, if_pos]
    | succ m ih =>
      intro i F w0 hm hF h1 h2
      obtain ⟨F, rfl⟩ : ∃ G, F = G + 1 := ⟨F - 1, by omega⟩
      obtain ⟨w1, a1, a2, a3⟩ := ih (i + 1) F (sm_wI w0 63 (t + i) (w.1 63 (s + i))) (by omega) (by omega) (fun j hj => by rw [sm_wI_nj (by omega)]; exact h1 j hj) (fun j hj => by
        by_cases e : j = i
        · rw [e, sm_wI_eq]
        · rw [sm_wI_nj (by omega)]; exact h2 j (by omega))
      refine ⟨w1, ?_, a2, (QFr.wI (by omega)).trans a3⟩
      rw [ff_mo_copyPart_2_f]
      unfold ff_mo_copyPart_2_b
      simp (disch := omega) only [u32_lit, u32_le, if_neg, u32_add, sm_rd_u, bs_, h1 i (by omega), sm_wr_u]
      exact a1
  obtain ⟨w1, a1, a2, a3⟩ := loop 32 0 1000000 w (by omega) (by omega) (fun _ _ => rfl) (fun j hj => absurd hj (Nat.not_lt_zero _))
  refine ⟨w1, ?_, a2, a3⟩
  unfold ff_mo_copyPart ff_mo_copyPart_2
  rw [sm_N_eq]
  exact a1
theorem MH_q {w w1 : sm_Mem} {b : Nat} {H : HV} {p : Nat → Prop} (hok : HOk H) (h : QFr p w w1) (hp : ∀ j, j < 32 → p (b + j)) (h1 : MH w b H) : MH w1 b H := MH_fr hok (by rw [h.1 62 (by decide)]) (h.1 64 (by decide)) (h.1 65 (by decide)) (fun j _ hj => h.2.1 _ (hp j hj)) h1
theorem mo_moves {H : HV} {s t k : Nat} {w : sm_Mem} (h : MH w s H) (hok : HOk H) (hst : s + 32 ≤ t) (ht : t ≤ 5152) (hk : k < 6 * hN H) : ∃ w1, ff_mo_moves (u32 s) (u32 k) (u32 t) w = some (.int (u32 (canV H (k / 6) (k % 6)).toNat), w1) ∧ QFr (fun j => j < t ∨ t + 32 ≤ j) w w1 ∧ (canV H (k / 6) (k % 6) = true → MH w1 t (pushV H (k / 6) (k % 6)) ∧ HOk (pushV H (k / 6) (k % 6))) := by
  have h6 := hok.1
  have hi : k / 6 < hN H := by omega
  have hx : k % 6 < 6 := Nat.mod_lt _ (by decide)
  have e1 : u32 k / u32 6 = u32 (k / 6) := u32_div (by omega) (by omega)
  have e2 : u32 k - u32 (k / 6) * u32 6 = u32 (k % 6) := by
    rw [u32_mul, u32_sub (by omega), show k - k / 6 * 6 = k % 6 by omega]
  have hmay := mo_mayNext h hok (by omega) hi hx
  by_cases hc : canV H (k / 6) (k % 6) = true
  · obtain ⟨c8, cb⟩ := canV_free hc
    obtain ⟨w1, a1, a2, a3⟩ := mo_copyPart (w := w) hst (show t + 32 ≤ 5184 by omega)
    have hM1 : MH w1 t H := MH_fr hok (by rw [a3.1 62 (by decide)]) (a3.1 64 (by decide)) (a3.1 65 (by decide)) (fun j _ hj => a2 j hj) h
    obtain ⟨w2, b1, b2, b3⟩ := mo_says (x := k % 6) hM1 hok ht hi c8 cb
    refine ⟨w2, ?_, a3.trans (b3.imp (fun j hj => by rcases hj with hj | hj; exact Or.inl (by omega); exact Or.inr (Or.inr hj))), fun _ => ⟨b2, pushV_ok hok hi hx c8⟩⟩
    rw [hc] at hmay ⊢
    unfold ff_mo_moves
    simp only [u32_lit, six0, if_false, e1, e2, hmay, cI_, u32_bool_eq0, a1, cV_, b1]
    rfl
  · have hc := eq_false_of_ne_true hc
    rw [hc] at hmay ⊢
    refine ⟨w, ?_, QFr.refl, fun h => by cases h⟩
    unfold ff_mo_moves
    simp only [u32_lit, six0, if_false, e1, e2, hmay, cI_, u32_bool_eq0, if_true]
    rfl
theorem mo_two {H : HV} {s t : Nat} {w : sm_Mem} (h : MH w s H) (hok : HOk H) (hst : s + 32 ≤ t) (ht : t ≤ 5152) : ∃ w1, ff_mo_struckByTwo (u32 s) (u32 t) w = some (.int (outV 2 H), w1) ∧ QFr (fun j => j < t ∨ t + 32 ≤ j) w w1 := by
  have h6 := hok.1
  have loop : ∀ (m k F : Nat) (w0 : sm_Mem), k + m = 6 * hN H → m < F → MH w0 s H → ∃ w1, ff_mo_struckByTwo_12_f F (u32 s) (u32 t) (u32 k) w0 = some (.int (twoV H k m), w1) ∧ QFr (fun j => j < t ∨ t + 32 ≤ j) w0 w1 := by
    intro m
    induction m with
    | zero =>
      intro k F w0 hm hF h0
      obtain ⟨F, rfl⟩ : ∃ G, F = G + 1 := ⟨F - 1, by omega⟩
      refine ⟨w0, ?_, QFr.refl⟩
      rw [ff_mo_struckByTwo_12_f, twoV]
      unfold ff_mo_struckByTwo_12_b
      simp (disch := omega) only [u32_lit, h0.1, u32_mul, u32_le, if_pos]
    | succ m ih =>
      intro k F w0 hm hF h0
      obtain ⟨F, rfl⟩ : ∃ G, F = G + 1 := ⟨F - 1, by omega⟩
      obtain ⟨w1, a1, a2, a3⟩ := mo_moves (k := k) h0 hok hst ht (by omega)
      have hM1 : MH w1 s H := MH_q hok a2 (fun j hj => Or.inl (by omega)) h0
      obtain ⟨w2, b1, b2⟩ := ih (k + 1) F w1 (by omega) (by omega) hM1
      rw [twoV]
      by_cases hc : canV H (k / 6) (k % 6) = true
      · rw [if_pos hc]
        obtain ⟨a4, a5⟩ := a3 hc
        have hd := mo_isDumb a4 a5 ht
        rw [show hN (pushV H (k / 6) (k % 6)) = hN H from rfl] at hd
        rw [hc] at a1
        have step : ff_mo_struckByTwo_12_f (F + 1) (u32 s) (u32 t) (u32 k) w0 = if silB (pushV H (k / 6) (k % 6)) 0 (hN H) = false then ff_mo_struckByTwo_12_f F (u32 s) (u32 t) (u32 (k + 1)) w1 else some (.int (u32 0), w1) := by
          rw [ff_mo_struckByTwo_12_f]
          unfold ff_mo_struckByTwo_12_b
          simp (disch := omega) only [u32_lit, h0.1, u32_mul, u32_le, if_neg, a1, cI_, u32_bool_eq0, hd, u32_add]
          rw [if_neg (by decide)]
        cases hs : silB (pushV H (k / 6) (k % 6)) 0 (hN H) with
        | true =>
          rw [hs, if_neg (by decide)] at step
          rw [if_pos rfl]
          exact ⟨w1, step, a2⟩
        | false =>
          rw [hs, if_pos rfl] at step
          rw [if_neg (by decide)]
          exact ⟨w2, step.trans b1, a2.trans b2⟩
      · rw [if_neg hc]
        rw [eq_false_of_ne_true hc] at a1
        refine ⟨w2, ?_, a2.trans b2⟩
        rw [← b1, ff_mo_struckByTwo_12_f]
        unfold ff_mo_struckByTwo_12_b
        simp (disch := omega) only [u32_lit, h0.1, u32_mul, u32_le, if_neg, a1, cI_, u32_bool_eq0, if_true, u32_add]
  rw [outV_2]
  by_cases hs : silB H 0 (hN H) = true
  · rw [if_pos hs]
    refine ⟨w, ?_, QFr.refl⟩
    unfold ff_mo_struckByTwo
    rw [mo_isDumb h hok (by omega), hs]
    simp only [u32_lit, cI_, u32_bool_eq0]
    rfl
  · rw [if_neg hs]
    obtain ⟨w1, a1, a2⟩ := loop (6 * hN H) 0 1000000 w (by omega) (by omega) h
    refine ⟨w1, ?_, a2⟩
    unfold ff_mo_struckByTwo ff_mo_struckByTwo_12
    rw [mo_isDumb h hok (by omega), eq_false_of_ne_true hs]
    simp only [u32_lit, cI_, u32_bool_eq0, if_true]
    rw [sm_N_eq]
    exact a1
theorem mo_three {H : HV} {w : sm_Mem} (h : MH w 0 H) (hok : HOk H) : ∃ w1, ff_mo_struckByThree w = some (.int (outV 3 H), w1) ∧ QFr (fun j => j < 5088) w w1 := by
  have h6 := hok.1
  have loop : ∀ (m k F : Nat) (lost : Bool) (w0 : sm_Mem), k + m = 6 * hN H → m < F → MH w0 0 H → ∃ w1, ff_mo_struckByThree_4_f F (u32 lost.toNat) (u32 k) w0 = some (.int (goV (outV 2) H k m lost), w1) ∧ QFr (fun j => j < 5088) w0 w1 := by
    intro m
    induction m with
    | zero =>
      intro k F lost w0 hm hF h0
      obtain ⟨F, rfl⟩ : ∃ G, F = G + 1 := ⟨F - 1, by omega⟩
      refine ⟨w0, ?_, QFr.refl⟩
      rw [ff_mo_struckByThree_4_f, goV]
      unfold ff_mo_struckByThree_4_b
      simp (disch := omega) only [u32_lit, h0.1, u32_mul, u32_le, if_pos, u32_bool_eq0]
      cases lost <;> rfl
    | succ m ih =>
      intro k F lost w0 hm hF h0
      obtain ⟨F, rfl⟩ : ∃ G, F = G + 1 := ⟨F - 1, by omega⟩
      obtain ⟨w1, a1, a2, a3⟩ := mo_moves (t := 5088) (k := k) h0 hok (by omega) (by omega) (by omega)
      have q1 : QFr (fun j => j < 5088) w0 w1 := a2.imp (fun j hj => Or.inl hj)
      have hM1 : MH w1 0 H := MH_q hok q1 (fun j hj => by show 0 + j < 5088; omega) h0
      rw [goV]
      by_cases hc : canV H (k / 6) (k % 6) = true
      · rw [if_pos hc]
        obtain ⟨a4, a5⟩ := a3 hc
        rw [hc] at a1
        obtain ⟨w2, b1, b2⟩ := mo_two (t := 5120) a4 a5 (by omega) (by omega)
        have q2 : QFr (fun j => j < 5088) w0 w2 := q1.trans (b2.imp (fun j hj => Or.inl (by omega)))
        have hM2 : MH w2 0 H := MH_q hok q2 (fun j hj => by show 0 + j < 5088; omega) h0
        have step : ff_mo_struckByThree_4_f (F + 1) (u32 lost.toNat) (u32 k) w0 = (if outV 2 (pushV H (k / 6) (k % 6)) = u32 1 then some (.int (u32 0), w2) else (if lost = false then ff_mo_struckByThree_4_f F (u32 0) (u32 (k + 1)) w2 else (if outV 2 (pushV H (k / 6) (k % 6)) = u32 0 then ff_mo_struckByThree_4_f F (u32 1) (u32 (k + 1)) w2 else ff_mo_struckByThree_4_f F (u32 0) (u32 (k + 1)) w2))) := by
          rw [ff_mo_struckByThree_4_f]
          unfold ff_mo_struckByThree_4_b ff_mo_struckByThree_57
          simp (disch := omega) only [u32_lit, h0.1, u32_mul, u32_le, if_neg, a1, cI_, u32_bool_eq0, b1, u32_add]
          rw [if_neg (by decide)]
        by_cases o1 : outV 2 (pushV H (k / 6) (k % 6)) = u32 1
        · rw [if_pos o1] at step ⊢
          exact ⟨w2, step, q2⟩
        · rw [if_neg o1] at step ⊢
          cases lost with
          | false =>
            obtain ⟨w3, c1, c2⟩ := ih (k + 1) F false w2 (by omega) (by omega) hM2
            refine ⟨w3, ?_, q2.trans c2⟩
            rw [ite_self, step, if_pos rfl]
            exact c1
          | true =>
            rw [if_neg (by decide)] at step
            by_cases o0 : outV 2 (pushV H (k / 6) (k % 6)) = u32 0
            · rw [if_pos o0] at step ⊢
              obtain ⟨w3, c1, c2⟩ := ih (k + 1) F true w2 (by omega) (by omega) hM2
              exact ⟨w3, step.trans c1, q2.trans c2⟩
            · rw [if_neg o0] at step ⊢
              obtain ⟨w3, c1, c2⟩ := ih (k + 1) F false w2 (by omega) (by omega) hM2
              exact ⟨w3, step.trans c1, q2.trans c2⟩
      · rw [if_neg hc]
        rw [eq_false_of_ne_true hc] at a1
        obtain ⟨w3, c1, c2⟩ := ih (k + 1) F lost w1 (by omega) (by omega) hM1
        refine ⟨w3, ?_, q1.trans c2⟩
        rw [← c1, ff_mo_struckByThree_4_f]
        unfold ff_mo_struckByThree_4_b
        simp (disch := omega) only [u32_lit, h0.1, u32_mul, u32_le, if_neg, a1, cI_, u32_bool_eq0, if_true, u32_add]
  obtain ⟨w1, a1, a2⟩ := loop (6 * hN H) 0 1000000 true w (by omega) (by omega) h
  refine ⟨w1, ?_, a2⟩
  unfold ff_mo_struckByThree ff_mo_struckByThree_4
  rw [sm_N_eq]
  exact a1
theorem RHs_q {w w1 : sm_Mem} {B : HBase} {ds : List Deed} (H : RHs w B ds) (h : QFr (fun j => j < 5088) w w1) : RHs w1 B ds := by
  obtain ⟨h1, h2, h3, h4, h5, h6, h7, h8, h9⟩ := H
  obtain ⟨q1, q2, q3⟩ := h
  have e0 : w1.1 62 1 = w.1 62 1 := by rw [q1 62 (by decide)]
  refine ⟨h1, fun i hi => ?_, fun i hi => ?_, h4, h5, ⟨CH_fr (fun a a1 a2 => q1 a (by omega)) h6.1, ?_⟩, ⟨?_, CDl_fr ds (fun j hj => ?_) h7.2⟩, MKept_fr h1 h4 h5 e0 (q1 64 (by decide)) (q1 65 (by decide)) (fun j hj => q2 _ (by omega)) h8, fun k hk => ?_⟩
  · rw [q1 39 (by decide), q1 40 (by decide)]; exact h2 i hi
  · rw [q1 66 (by decide)]; exact h3 i hi
  · rw [q1 36 (by decide)]; exact h6.2
  · rw [q1 45 (by decide)]; exact h7.1
  · rw [q1 (45 + 1) (by decide), q1 (45 + 2) (by decide), q1 (45 + 3) (by decide)]; exact ⟨rfl, rfl, rfl⟩
  · rcases h9 k hk with ⟨a1, a2⟩ | ⟨l, a1, a2, a3, a4⟩
    · exact Or.inl ⟨by rw [q1 _ (by omega)]; exact a1, by rw [q2 _ (by omega)]; exact a2⟩
    · refine Or.inr ⟨l, a1, a2, ⟨by rw [q1 _ (by omega)]; exact a3.1, CDl_fr l (fun j hj => ?_) a3.2⟩, MKept_fr h1 a1 a2 e0 (q1 64 (by decide)) (q1 65 (by decide)) (fun j hj => q2 _ (by omega)) a4⟩
      rw [q1 (24 + 4 * k + 1) (by omega), q1 (24 + 4 * k + 2) (by omega), q1 (24 + 4 * k + 3) (by omega)]
      exact ⟨rfl, rfl, rfl⟩
theorem op_struck {n : Int32} {w : sm_Mem} (h : R w) : Both (ff_ho_struck n) (ff_mo_struck n) R w := by
  obtain ⟨hc, B, ds, hh⟩ := id h
  obtain ⟨hok, hn, n1, n2, n6⟩ := hh.n
  have in_bad : ∀ {x : Int32} {w0 : sm_Mem}, aBad x 4 → ff_mo_in x.toInt64 0 3 w0 = some (.int (u32 0), w0) := fun hb => mo_in_bad hb rfl
  have in_good : ∀ {k : Nat} {w0 : sm_Mem}, k < 4 → ff_mo_in (u32 k).toInt64 0 3 w0 = some (.int (u32 1), w0) := fun hb => mo_in_good hb (by decide) rfl
  rcases aCases n 4 with hp | ⟨t, ht, -, rfl⟩
  · refine BothR_same h (-u32 1) ?_ ?_
    · unfold ff_ho_struck
      rcases hp with hp | ⟨k, hk, hk2, rfl⟩
      · simp only [u32_lit, if_pos hp]
      · simp (disch := omega) only [u32_lit, u32_lt, if_neg, u32_le]
    · unfold ff_mo_struck
      rw [in_bad hp, cI_, if_pos (show u32 0 = (0 : Int32) from rfl)]
      rfl
  have mpre : ∀ w0, ff_mo_struck (u32 t) w0 = (if (w0.1 62 1) = u32 0 then (some (.int (-u32 4), w0)) else (if u32 t = u32 0 then (some (.int (-u32 9), w0)) else (if u32 t = u32 3 then (sm_cI (ff_mo_struckByThree w0) fun x7 w8 => (some (.int x7, w8))) else (if u32 t = u32 2 then (sm_cI (ff_mo_struckByTwo (u32 0) (u32 5088) w0) fun x5 w6 => (some (.int x5, w6))) else (sm_cI (ff_mo_isDumb (u32 0) w0) fun x3 w4 => (if x3 = u32 0 then (some (.int (-u32 9), w4)) else (some (.int (u32 1), w4)))))))) := fun w0 => by
    unfold ff_mo_struck
    rw [in_good ht, cI_, if_neg (by decide)]
    rfl
  have cpre : ff_ho_struck (u32 t) w = (if (w.1 36 0) = u32 0 then (some (.int (-u32 4), w)) else (sm_cI (ff_ho_outcome 8 (u32 t) w) fun x1 w2 => (some (.int x1, w2)))) := by
    unfold ff_ho_struck
    simp (disch := omega) only [u32_lit, u32_lt, if_neg, u32_le, if_pos]
  by_cases h0 : B.1 = 0
  · refine BothR_same h (-u32 4) ?_ ?_
    · rw [cpre, n1, h0, if_pos rfl]
    · rw [mpre, n2, h0, if_pos rfl]
  have e0 : (u32 B.1 = u32 0) = False := by
    rw [u32_eq (by omega) (by omega)]
    exact eq_false h0
  obtain ⟨w1, a1, a2, a3⟩ := ho_outcome t 8 (playV B ds).1 w (by omega) (by omega) hh.2.2.2.2.2.1.1 hok
  have hx : XFr w w1 := XFr.t (TFr.s a3) (fun a ha => a3.hi (by omega))
  have hclass : ff_ho_struck (u32 t) w = some (.int (outV t (playV B ds).1), w1) := by
    rw [cpre, n1]
    simp only [e0, if_false]
    rw [a1, cI_]
  have hMH : MH w1 0 (playV B ds).1 := MH_fr hok (by rw [hx.1 62 (by omega)]) (hx.1 64 (by omega)) (hx.1 65 (by omega)) (fun j _ _ => by rw [hx.1 63 (by omega)]) hh.2.2.2.2.2.2.2.1.2.1.1
  have e2 : w1.1 62 1 = u32 B.1 := by rw [hx.1 62 (by omega)]; exact n2
  have hmodel : ∃ w2, ff_mo_struck (u32 t) w1 = some (.int (outV t (playV B ds).1), w2) ∧ QFr (fun j => j < 5088) w1 w2 := by
    rcases (show t = 0 ∨ t = 1 ∨ t = 2 ∨ t = 3 by omega) with rfl | rfl | rfl | rfl
    · refine ⟨w1, ?_, QFr.refl⟩
      rw [mpre, e2]
      simp only [e0, if_false, if_true]
      rfl
    · refine ⟨w1, ?_, QFr.refl⟩
      have f3 : (u32 1 = u32 3) = False := eq_false (by decide)
      have f2 : (u32 1 = u32 2) = False := eq_false (by decide)
      rw [mpre, e2]
      simp only [e0, u10, f3, f2, if_false]
      rw [mo_isDumb hMH hok (by omega), cI_]
      simp only [u32_bool_eq0]
      show _ = some (Value.int (if silB _ 0 (hN _) = true then u32 1 else -u32 9), w1)
      cases silB (playV B ds).1 0 (hN (playV B ds).1) <;> rfl
    · have f0 : (u32 2 = u32 0) = False := eq_false (by decide)
      have f3 : (u32 2 = u32 3) = False := eq_false (by decide)
      obtain ⟨w2, b1, b2⟩ := mo_two (t := 5088) hMH hok (by omega) (by omega)
      refine ⟨w2, ?_, b2.imp (fun j hj => Or.inl hj)⟩
      rw [mpre, e2]
      simp only [e0, f0, f3, if_false, if_true]
      rw [b1, cI_]
    · have f0 : (u32 3 = u32 0) = False := eq_false (by decide)
      obtain ⟨w2, b1, b2⟩ := mo_three hMH hok
      refine ⟨w2, ?_, b2⟩
      rw [mpre, e2]
      simp only [e0, f0, if_false, if_true]
      rw [b1, cI_]
  obtain ⟨w2, b1, b2⟩ := hmodel
  have hR1 : R w1 := R_done hc hh hx a2 MFr.refl (by rw [hx.1 62 (by omega), a3.hi (by decide)]; exact hc.2.2.1) (by rw [a3.1.2.1]; exact hc.2.2.2.1) (by rw [a3.1.2.1]; exact hc.2.2.2.2.1)
  refine Both_mk _ _ _ hclass b1 ?_
  have hh1 : RHs w1 B ds := RHs_search hh a2 (fun a ha => hx.1 a (by omega)) hx.2.1 (by rw [hx.1 62 (by omega)])
  exact ⟨RC_fr (fun a ha => b2.1 a (by omega)) b2.2.2 hR1.1, B, ds, RHs_q hh1 b2⟩
