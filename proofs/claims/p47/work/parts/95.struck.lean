/-! pure: struck dumb by turns -/
def silB (H : HV) : Nat → Nat → Bool
  | _, 0 => true
  | i, m + 1 => if sayF H i = u32 0 then silB H (i + 1) m else false
def goV (f : HV → Int32) (H : HV) : Nat → Nat → Bool → Int32
  | _, 0, lost => if lost = true then u32 1 else -u32 9
  | k, m + 1, lost => if canV H (k / 6) (k % 6) = true then (if f (pushV H (k / 6) (k % 6)) = u32 1 then u32 0 else if f (pushV H (k / 6) (k % 6)) = u32 0 then goV f H (k + 1) m lost else goV f H (k + 1) m false) else goV f H (k + 1) m lost
def outV : Nat → HV → Int32
  | 0, _ => -u32 9
  | 1, H => if silB H 0 (hN H) = true then u32 1 else -u32 9
  | t + 2, H => goV (outV (t + 1)) H 0 (6 * hN H) true
theorem u9n1 : (-u32 9 = u32 1) = False := eq_false (by decide)
theorem u9n0 : (-u32 9 = u32 0) = False := eq_false (by decide)
theorem hs_isSilenced {H : HV} {w : sm_Mem} (h : CH w H) (hok : HOk H) : ff_hs_isSilenced w = some (.int (u32 (silB H 0 (hN H)).toNat), w) := by
  have h6 := hok.1
  have loop : ∀ (m i F : Nat), i + m = hN H → m < F → ff_hs_isSilenced_2_f F (u32 i) w = some (.int (u32 (silB H i m).toNat), w) := by
    intro m
    induction m with
    | zero =>
      intro i F hm hF
      obtain ⟨F, rfl⟩ : ∃ G, F = G + 1 := ⟨F - 1, by omega⟩
      rw [ff_hs_isSilenced_2_f]
      unfold ff_hs_isSilenced_2_b
      simp (disch := omega) only [u32_lit, h.1, u32_le, if_pos]
      rfl
    | succ m ih =>
      intro i F hm hF
      obtain ⟨F, rfl⟩ : ∃ G, F = G + 1 := ⟨F - 1, by omega⟩
      rw [ff_hs_isSilenced_2_f, silB]
      unfold ff_hs_isSilenced_2_b
      simp (disch := omega) only [u32_lit, h.1, u32_le, if_neg, hs_sayable h hok (show i < hN H by omega), cI_, u32_add]
      by_cases hs : sayF H i = u32 0
      · rw [if_pos hs, if_pos hs]
        exact ih (i + 1) F (by omega) (by omega)
      · rw [if_neg hs, if_neg hs]
        rfl
  unfold ff_hs_isSilenced ff_hs_isSilenced_2
  rw [sm_N_eq]
  exact loop (hN H) 0 1000000 (by omega) (by omega)
theorem ho_outcome : ∀ (t k : Nat) (H : HV) (w : sm_Mem), t < k → t ≤ 3 → CH w H → HOk H → ∃ w1, ff_ho_outcome k (u32 t) w = some (.int (outV t H), w1) ∧ CH w1 H ∧ SFr w w1 := by
  intro t
  induction t with
  | zero =>
    intro k H w hk ht hC hok
    obtain ⟨k, rfl⟩ : ∃ G, k = G + 1 := ⟨k - 1, by omega⟩
    refine ⟨w, ?_, hC, SFr.refl⟩
    have e : (u32 0 < u32 0) = False := eq_false (by decide)
    rw [ff_ho_outcome, outV]
    unfold ff_ho_outcome_0
    simp only [u32_lit, e, if_false]
  | succ t iht =>
    intro k H w hk ht hC hok
    obtain ⟨k, rfl⟩ : ∃ G, k = G + 1 := ⟨k - 1, by omega⟩
    have h6 := hok.1
    cases t with
    | zero =>
      refine ⟨w, ?_, hC, SFr.refl⟩
      have e : (u32 0 < u32 (0 + 1)) = True := eq_true (by decide)
      have e1 : (u32 (0 + 1) = u32 1) = True := eq_true rfl
      rw [ff_ho_outcome, outV]
      unfold ff_ho_outcome_0
      simp only [u32_lit, e, e1, if_true, hs_isSilenced hC hok, cI_, u32_bool_eq0]
      cases silB H 0 (hN H) <;> rfl
    | succ t =>
      have inner : ∀ (self : Int32 → Int32 → Int32 → sm_Mem → sm_R) (i : Nat), i < hN H → (∀ (lost : Bool) (w0 : sm_Mem), CH w0 H → ∃ w1, self (u32 (t + 1 + 1)) (u32 lost.toNat) (u32 (i + 1)) w0 = some (.int (goV (outV (t + 1)) H (6 * (i + 1)) (6 * (hN H - (i + 1))) lost), w1) ∧ CH w1 H ∧ SFr w0 w1) → ∀ (m x F : Nat) (lost : Bool) (w0 : sm_Mem), x + m = 6 → m < F → CH w0 H → ∃ w1, ff_ho_outcome_41_f (ff_ho_outcome k) self F (u32 (t + 1 + 1)) (u32 lost.toNat) (u32 i) (u32 x) w0 = some (.int (goV (outV (t + 1)) H (6 * i + x) (m + 6 * (hN H - (i + 1))) lost), w1) ∧ CH w1 H ∧ SFr w0 w1 := by
        intro self i hi hself m
        induction m with
        | zero =>
          intro x F lost w0 hm hF hC0
          obtain ⟨F, rfl⟩ : ∃ G, F = G + 1 := ⟨F - 1, by omega⟩
          obtain ⟨w1, a1, a2, a3⟩ := hself lost w0 hC0
          refine ⟨w1, ?_, a2, a3⟩
          rw [ff_ho_outcome_41_f, show 6 * i + x = 6 * (i + 1) by omega, Nat.zero_add, ← a1]
          unfold ff_ho_outcome_41_b
          simp (disch := omega) only [u32_lit, u32_le, if_pos, u32_add]
        | succ m ihm =>
          intro x F lost w0 hm hF hC0
          obtain ⟨F, rfl⟩ : ∃ G, F = G + 1 := ⟨F - 1, by omega⟩
          have hx : x < 6 := by omega
          have ed : (6 * i + x) / 6 = i := by omega
          have em : (6 * i + x) % 6 = x := by omega
          have hcan := ho_can hC0 hok hi hx
          rw [show m + 1 + 6 * (hN H - (i + 1)) = (m + 6 * (hN H - (i + 1))) + 1 by omega, goV, ed, em]
          by_cases hs : canV H i x = true
          · obtain ⟨c8, cb⟩ := canV_free hs
            obtain ⟨w2, p1, p2, p3⟩ := hs_push (x := x) hC0 hok hi c8 cb
            obtain ⟨w3, r1, r2, r3⟩ := iht k (pushV H i x) w2 (by omega) (by omega) p2 (pushV_ok hok hi hx c8)
            obtain ⟨w4, s1, s2, s3⟩ := hs_pop r2 hok hi c8 cb
            have hf : SFr w0 w4 := (p3.trans r3).trans s3
            rw [hs] at hcan
            have step : ff_ho_outcome_41_f (ff_ho_outcome k) self (F + 1) (u32 (t + 1 + 1)) (u32 lost.toNat) (u32 i) (u32 x) w0 = (if outV (t + 1) (pushV H i x) = u32 1 then some (.int (u32 0), w4) else (if outV (t + 1) (pushV H i x) = u32 0 then ff_ho_outcome_41_f (ff_ho_outcome k) self F (u32 (t + 1 + 1)) (u32 lost.toNat) (u32 i) (u32 (x + 1)) w4 else ff_ho_outcome_41_f (ff_ho_outcome k) self F (u32 (t + 1 + 1)) (u32 0) (u32 i) (u32 (x + 1)) w4)) := by
              rw [ff_ho_outcome_41_f]
              unfold ff_ho_outcome_41_b
              simp (disch := omega) only [u32_lit, u32_le, if_neg, hcan, cI_, u32_bool_eq0, p1, cV_, u32_sub, Nat.add_sub_cancel, r1, s1, u32_add]
              rw [if_neg (by decide)]
            rw [hs, if_pos rfl]
            by_cases o1 : outV (t + 1) (pushV H i x) = u32 1
            · rw [if_pos o1] at step ⊢
              exact ⟨w4, step, s2, hf⟩
            · rw [if_neg o1] at step ⊢
              by_cases o0 : outV (t + 1) (pushV H i x) = u32 0
              · rw [if_pos o0] at step ⊢
                obtain ⟨w5, b1, b2, b3⟩ := ihm (x + 1) F lost w4 (by omega) (by omega) s2
                rw [show 6 * i + (x + 1) = 6 * i + x + 1 by omega] at b1
                exact ⟨w5, step.trans b1, b2, hf.trans b3⟩
              · rw [if_neg o0] at step ⊢
                obtain ⟨w5, b1, b2, b3⟩ := ihm (x + 1) F false w4 (by omega) (by omega) s2
                rw [show 6 * i + (x + 1) = 6 * i + x + 1 by omega] at b1
                exact ⟨w5, step.trans b1, b2, hf.trans b3⟩
          · rw [if_neg hs]
            have hs := eq_false_of_ne_true hs
            rw [hs] at hcan
            obtain ⟨w5, b1, b2, b3⟩ := ihm (x + 1) F lost w0 (by omega) (by omega) hC0
            rw [show 6 * i + (x + 1) = 6 * i + x + 1 by omega] at b1
            refine ⟨w5, ?_, b2, b3⟩
            rw [← b1, ff_ho_outcome_41_f]
            unfold ff_ho_outcome_41_b
            simp (disch := omega) only [u32_lit, u32_le, if_neg, hcan, cI_, u32_bool_eq0, if_true, u32_add]
      have outer : ∀ (m i F : Nat) (lost : Bool) (w0 : sm_Mem), i + m = hN H → m < F → CH w0 H → ∃ w1, ff_ho_outcome_30_f (ff_ho_outcome k) F (u32 (t + 1 + 1)) (u32 lost.toNat) (u32 i) w0 = some (.int (goV (outV (t + 1)) H (6 * i) (6 * m) lost), w1) ∧ CH w1 H ∧ SFr w0 w1 := by
        intro m
        induction m with
        | zero =>
          intro i F lost w0 hm hF hC0
          obtain ⟨F, rfl⟩ : ∃ G, F = G + 1 := ⟨F - 1, by omega⟩
          refine ⟨w0, ?_, hC0, SFr.refl⟩
          rw [ff_ho_outcome_30_f, Nat.mul_zero, goV]
          unfold ff_ho_outcome_30_b
          simp (disch := omega) only [u32_lit, hC0.1, u32_le, if_pos, u32_bool_eq0]
          cases lost <;> rfl
        | succ m ihm =>
          intro i F lost w0 hm hF hC0
          obtain ⟨F, rfl⟩ : ∃ G, F = G + 1 := ⟨F - 1, by omega⟩
          have hnm : hN H - (i + 1) = m := by omega
          obtain ⟨w1, a1, a2, a3⟩ := inner (ff_ho_outcome_30_f (ff_ho_outcome k) F) i (by omega) (fun lost w0 hC0 => by
            rw [hnm]
            exact ihm (i + 1) F lost w0 (by omega) (by omega) hC0) 6 0 1000000 lost w0 (by omega) (by omega) hC0
          refine ⟨w1, ?_, a2, a3⟩
          rw [hnm, Nat.add_zero, show 6 + 6 * m = 6 * (m + 1) by omega] at a1
          rw [ff_ho_outcome_30_f]
          unfold ff_ho_outcome_30_b
          simp (disch := omega) only [u32_lit, hC0.1, u32_le, if_neg]
          unfold ff_ho_outcome_41
          rw [sm_N_eq]
          exact a1
      obtain ⟨w1, a1, a2, a3⟩ := outer (hN H) 0 1000000 true w (by omega) (by omega) hC
      refine ⟨w1, ?_, a2, a3⟩
      have e : (u32 0 < u32 (t + 1 + 1)) = True := by
        rw [u32_lt (by omega) (by omega)]
        exact eq_true (by omega)
      have e1 : (u32 (t + 1 + 1) = u32 1) = False := by
        rw [u32_eq (by omega) (by omega)]
        exact eq_false (by omega)
      rw [ff_ho_outcome, outV]
      unfold ff_ho_outcome_0 ff_ho_outcome_30
      simp only [u32_lit, e, e1, if_true, if_false]
      rw [sm_N_eq]
      exact a1
/-! two turns, by the reference -/
def twoV (H : HV) : Nat → Nat → Int32
  | _, 0 => -u32 9
  | k, m + 1 => if canV H (k / 6) (k % 6) = true then (if silB (pushV H (k / 6) (k % 6)) 0 (hN H) = true then u32 0 else twoV H (k + 1) m) else twoV H (k + 1) m
theorem out1 {H : HV} (i x : Nat) : outV 1 (pushV H i x) = if silB (pushV H i x) 0 (hN H) = true then u32 1 else -u32 9 := rfl
theorem goV_false {H : HV} : ∀ (m k : Nat), goV (outV 1) H k m false = twoV H k m
  | 0, k => rfl
  | m + 1, k => by
    rw [goV, twoV, goV_false m (k + 1), out1]
    by_cases hc : canV H (k / 6) (k % 6) = true
    · rw [if_pos hc, if_pos hc]
      by_cases hs : silB (pushV H (k / 6) (k % 6)) 0 (hN H) = true
      · rw [if_pos hs, if_pos hs, if_pos rfl]
      · rw [if_neg hs, if_neg hs, if_neg (by decide), if_neg (by decide)]
    · rw [if_neg hc, if_neg hc]
theorem goV_true {H : HV} : ∀ (m k : Nat), ((∀ j, k ≤ j → j < k + m → canV H (j / 6) (j % 6) = false) → goV (outV 1) H k m true = u32 1) ∧ ((∃ j, k ≤ j ∧ j < k + m ∧ canV H (j / 6) (j % 6) = true) → goV (outV 1) H k m true = twoV H k m)
  | 0, k => ⟨fun _ => rfl, fun ⟨j, h1, h2, _⟩ => absurd h1 (by omega)⟩
  | m + 1, k => by
    obtain ⟨i1, i2⟩ := goV_true (H := H) m (k + 1)
    constructor
    · intro h
      rw [goV, h k (Nat.le_refl _) (by omega), if_neg (by decide)]
      exact i1 (fun j h1 h2 => h j (by omega) (by omega))
    · rintro ⟨j, h1, h2, h3⟩
      rw [goV, twoV, out1]
      by_cases hc : canV H (k / 6) (k % 6) = true
      · rw [if_pos hc, if_pos hc]
        by_cases hs : silB (pushV H (k / 6) (k % 6)) 0 (hN H) = true
        · rw [if_pos hs, if_pos hs, if_pos rfl]
        · rw [if_neg hs, if_neg hs, if_neg (by decide), if_neg (by decide), goV_false]
      · rw [if_neg hc, if_neg hc]
        refine i2 ⟨j, ?_, by omega, h3⟩
        by_cases e : j = k
        · rw [e] at h3; exact absurd h3 hc
        · omega
theorem sayF_0 {H : HV} {i : Nat} : sayF H i = u32 0 ↔ ∀ x, x < 6 → canV H i x = false := by
  unfold sayF
  have key : ∀ a b c d e f : Bool, (orF (fun x => match x with | 0 => a | 1 => b | 2 => c | 3 => d | 4 => e | _ => f) 0 6 (u32 0) = u32 0) ↔ (a = false ∧ b = false ∧ c = false ∧ d = false ∧ e = false ∧ f = false) := by decide +kernel
  have h := key (canV H i 0) (canV H i 1) (canV H i 2) (canV H i 3) (canV H i 4) (canV H i 5)
  have e : orF (canV H i) 0 6 (u32 0) = orF (fun x => match x with | 0 => canV H i 0 | 1 => canV H i 1 | 2 => canV H i 2 | 3 => canV H i 3 | 4 => canV H i 4 | _ => canV H i 5) 0 6 (u32 0) := by
    refine orF_congr _ _ _ (fun j h1 h2 => ?_)
    rcases (show j = 0 ∨ j = 1 ∨ j = 2 ∨ j = 3 ∨ j = 4 ∨ j = 5 by omega) with rfl | rfl | rfl | rfl | rfl | rfl <;> rfl
  rw [e, h]
  constructor
  · rintro ⟨h0, h1, h2, h3, h4, h5⟩ x hx
    rcases (show x = 0 ∨ x = 1 ∨ x = 2 ∨ x = 3 ∨ x = 4 ∨ x = 5 by omega) with rfl | rfl | rfl | rfl | rfl | rfl <;> assumption
  · intro h
    exact ⟨h 0 (by decide), h 1 (by decide), h 2 (by decide), h 3 (by decide), h 4 (by decide), h 5 (by decide)⟩
theorem silB_iff {H : HV} : ∀ (m i : Nat), silB H i m = true ↔ ∀ j, i ≤ j → j < i + m → sayF H j = u32 0
  | 0, i => ⟨fun _ j h1 h2 => absurd h1 (by omega), fun _ => rfl⟩
  | m + 1, i => by
    rw [silB]
    by_cases h : sayF H i = u32 0
    · rw [if_pos h, silB_iff m (i + 1)]
      constructor
      · intro h2 j h3 h4
        by_cases e : j = i
        · rw [e]; exact h
        · exact h2 j (by omega) (by omega)
      · exact fun h2 j h3 h4 => h2 j (by omega) (by omega)
    · rw [if_neg h]
      exact ⟨fun h2 => (by cases h2), fun h2 => absurd (h2 i (Nat.le_refl _) (by omega)) h⟩
theorem outV_2 (H : HV) : outV 2 H = if silB H 0 (hN H) = true then u32 1 else twoV H 0 (6 * hN H) := by
  show goV (outV 1) H 0 (6 * hN H) true = _
  obtain ⟨g1, g2⟩ := goV_true (H := H) (6 * hN H) 0
  by_cases h : silB H 0 (hN H) = true
  · rw [if_pos h]
    refine g1 (fun j _ hj => ?_)
    exact sayF_0.mp ((silB_iff _ _).mp h (j / 6) (Nat.zero_le _) (by omega)) (j % 6) (Nat.mod_lt _ (by decide))
  · rw [if_neg h]
    refine g2 ?_
    refine Classical.byContradiction (fun hn => h ((silB_iff _ _).mpr (fun i _ hi => sayF_0.mpr (fun x hx => ?_))))
    refine eq_false_of_ne_true (fun hc => hn ⟨6 * i + x, Nat.zero_le _, by omega, ?_⟩)
    rw [show (6 * i + x) / 6 = i by omega, show (6 * i + x) % 6 = x by omega]
    exact hc
