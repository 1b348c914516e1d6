/-! pure: triples; kinds -/
abbrev Tr : Type := Option Nat × Nat × Bool
def wordOf (x : Int32) : Option Nat := if 0 ≤ x.toInt ∧ x.toInt < 6 then some x.toInt.toNat else none
def lastOf (x : Int32) : Option (Option Nat) := if x = -u32 9 then some none else (wordOf x).map some
def bitOf (x : Int32) : Option Bool := if x = u32 0 then some false else if x = u32 1 then some true else none
def tripAt (g : Nat → Int32) (p : Nat) : Option Tr := match lastOf (g p), wordOf (g (p + 1)), bitOf (g (p + 2)) with
  | some l, some x, some b => some (l, x, b)
  | _, _, _ => none
def trips (g : Nat → Int32) : Nat → Nat → Option (List Tr)
  | _, 0 => some []
  | p, m + 1 => match tripAt g p with
    | none => none
    | some t => (trips g (p + 3) m).map (fun l => t :: l)
theorem wordOf_cases (x : Int32) : (wordOf x = none ∧ aBad x 6) ∨ ∃ v, wordOf x = some v ∧ v < 6 ∧ x = u32 v := by
  rcases aCases x 6 with h | ⟨v, h1, -, rfl⟩
  · left
    refine ⟨?_, h⟩
    have := aBad_int h
    unfold wordOf
    rw [if_neg (by omega)]
  · right
    refine ⟨v, ?_, h1, rfl⟩
    unfold wordOf
    rw [u32_toInt (by omega), if_pos (by omega)]
    rfl
theorem bitOf_cases (x : Int32) : (bitOf x = none ∧ aBad x 2 ∧ ¬ x = u32 0 ∧ ¬ x = u32 1) ∨ ∃ b : Bool, bitOf x = some b ∧ x = u32 b.toNat := by
  unfold bitOf
  by_cases h0 : x = u32 0
  · rw [if_pos h0]
    exact Or.inr ⟨false, rfl, h0⟩
  · rw [if_neg h0]
    by_cases h1 : x = u32 1
    · rw [if_pos h1]
      exact Or.inr ⟨true, rfl, h1⟩
    · rw [if_neg h1]
      refine Or.inl ⟨rfl, ?_, h0, h1⟩
      rcases aCases x 2 with h | ⟨v, h2, -, rfl⟩
      · exact h
      · rcases (show v = 0 ∨ v = 1 by omega) with rfl | rfl
        · exact absurd rfl h0
        · exact absurd rfl h1
theorem trips_congr {f g : Nat → Int32} : ∀ (m p : Nat), (∀ j, p ≤ j → j < p + 3 * m → f j = g j) → trips f p m = trips g p m
  | 0, _, _ => rfl
  | m + 1, p, h => by
    rw [trips, trips, trips_congr m (p + 3) (fun j h1 h2 => h j (by omega) (by omega))]
    unfold tripAt
    rw [h p (by omega) (by omega), h (p + 1) (by omega) (by omega), h (p + 2) (by omega) (by omega)]
theorem trips_at {g : Nat → Int32} : ∀ (m p : Nat) (L : List Tr), trips g p m = some L → L.length = m ∧ ∀ k t, L[k]? = some t → g (p + 3 * k) = oAns t.1 ∧ (∀ l, t.1 = some l → l < 6) ∧ g (p + 3 * k + 1) = u32 t.2.1 ∧ t.2.1 < 6 ∧ g (p + 3 * k + 2) = u32 t.2.2.toNat
  | 0, p, L, h => by
    cases h
    exact ⟨rfl, fun k t ht => by simp at ht⟩
  | m + 1, p, L, h => by
    rw [trips] at h
    cases ht : tripAt g p with
    | none => rw [ht] at h; cases h
    | some t =>
      rw [ht] at h
      cases hr : trips g (p + 3) m with
      | none => rw [hr] at h; cases h
      | some r =>
        rw [hr] at h
        cases h
        obtain ⟨h1, h2⟩ := trips_at m (p + 3) r hr
        refine ⟨by rw [List.length_cons, h1], fun k s hs => ?_⟩
        cases k with
        | zero =>
          cases hs
          unfold tripAt at ht
          cases hl : lastOf (g p) with
          | none => rw [hl] at ht; cases ht
          | some l =>
            rcases wordOf_cases (g (p + 1)) with ⟨e, -⟩ | ⟨x, e, hx, ex⟩
            · rw [hl, e] at ht; cases ht
            rcases bitOf_cases (g (p + 2)) with ⟨e2, -⟩ | ⟨b, e2, eb⟩
            · rw [hl, e, e2] at ht; cases ht
            rw [hl, e, e2] at ht
            cases ht
            unfold lastOf at hl
            rw [Nat.mul_zero, Nat.add_zero]
            by_cases h9 : g p = -u32 9
            · rw [if_pos h9] at hl
              cases hl
              exact ⟨h9, fun l hl => (by cases hl), ex, hx, eb⟩
            · rw [if_neg h9] at hl
              rcases wordOf_cases (g p) with ⟨e3, -⟩ | ⟨v, e3, hv, ev⟩
              · rw [e3] at hl; cases hl
              · rw [e3] at hl
                cases hl
                exact ⟨ev, fun l hl => (by cases hl; exact hv), ex, hx, eb⟩
        | succ k =>
          have := h2 k s hs
          rw [show p + 3 * (k + 1) = p + 3 + 3 * k by omega]
          exact this
theorem rw_triples_loop {c n : Nat} {w : sm_Mem} (hR : isRow c 40) (hn : n ≤ 40) (hw : w.1 c 1 = u32 n) : ∀ (m p F : Nat), p + 3 * m = n → m < F → ff_rw_isOfTriples_2_f F c (u32 p) w = some (.int (u32 (trips (w.1 (c + 1)) p m).isSome.toNat), w) := by
  intro m
  induction m with
  | zero =>
    intro p F hp hF
    obtain ⟨F, rfl⟩ : ∃ G, F = G + 1 := ⟨F - 1, by omega⟩
    rw [ff_rw_isOfTriples_2_f]
    unfold ff_rw_isOfTriples_2_b
    simp (disch := omega) only [u32_lit, sm_let_eq, sm_bind_some, sm_cI_some, sm_cV_some, sm_cL_some, sm_rd_u, sm_wr_u, u32_add, u32_mul, u32_sub, u32_le, u32_lt, u32_eq, u32_eq_neg, u32_neg_eq, u32_neg_neg, u32_le_neg, u32_neg_lt, u32_lt_neg, u32_neg_le, u10, u01, u3n0, u1n0, u4n0, n9_lt, n1_lt, n9_neg, n1_neg, if_true, if_false, if_pos, if_neg, ne_eq, not_true_eq_false, not_false_eq_true, hR.gI, hw, trips, Option.isSome_some, Bool.toNat_true]
  | succ m ih =>
    intro p F hp hF
    obtain ⟨F, rfl⟩ : ∃ G, F = G + 1 := ⟨F - 1, by omega⟩
    rw [ff_rw_isOfTriples_2_f, trips]
    unfold ff_rw_isOfTriples_2_b ff_rw_isOfTriples_39 tripAt
    have ih := ih (p + 3) F (by omega) (by omega)
    simp (disch := omega) only [u32_lit, sm_bind_some, hR.gI, hw, hR.fk, u32_add, u32_le, if_neg, hR.rds (show p < 40 by omega), hR.rds (show p + 1 < 40 by omega), hR.rds (show p + 2 < 40 by omega), ih]
    have rest : ∀ o : Option Nat, (sm_cI (ff_ho_isWithin (w.1 (c + 1) (p + 1)) (u32 6) w) fun x3 w4 => if x3 = u32 0 then some (Value.int (u32 0), w4) else sm_cI (ff_ho_isWithin (w4.1 (c + 1) (p + 2)) (u32 2) w4) fun x7 w8 => if x7 = u32 0 then some (Value.int (u32 0), w8) else ff_rw_isOfTriples_2_f F c (u32 (p + 3)) w8) = some (.int (u32 (match (some o), wordOf (w.1 (c + 1) (p + 1)), bitOf (w.1 (c + 1) (p + 2)) with
        | some l, some x, some b => trips (w.1 (c + 1)) (p + 3) m
        | _, _, _ => none).isSome.toNat), w) := by
      intro o
      rcases wordOf_cases (w.1 (c + 1) (p + 1)) with ⟨e, hb⟩ | ⟨x, e, hx, ex⟩
      · rw [e, ho_within_bad hb (by decide)]
        simp only [sm_cI_some, if_true]
        rfl
      · rw [e, ex, ho_within_good hx (by decide)]
        simp only [sm_cI_some, u10, if_false]
        rcases bitOf_cases (w.1 (c + 1) (p + 2)) with ⟨e2, hb, -⟩ | ⟨b, e2, eb⟩
        · rw [e2, ho_within_bad hb (by decide)]
          simp only [sm_cI_some, if_true]
          rfl
        · rw [e2, eb, ho_within_good (show b.toNat < 2 by cases b <;> decide) (by decide)]
          simp only [sm_cI_some, u10, if_false]
          exact ih
    have fin : ∀ (l : Option (Option Nat)), l.isSome = true → (match l, wordOf (w.1 (c + 1) (p + 1)), bitOf (w.1 (c + 1) (p + 2)) with
        | some l, some x, some b => trips (w.1 (c + 1)) (p + 3) m
        | _, _, _ => none).isSome = (match (match l, wordOf (w.1 (c + 1) (p + 1)), bitOf (w.1 (c + 1) (p + 2)) with
          | some l, some x, some b => some (l, x, b)
          | _, _, _ => none : Option Tr) with
        | none => none
        | some t => (trips (w.1 (c + 1)) (p + 3) m).map (fun l => t :: l)).isSome := by
      intro l hl
      cases l with
      | none => cases hl
      | some l =>
        cases wordOf (w.1 (c + 1) (p + 1)) with
        | none => rfl
        | some x =>
          cases bitOf (w.1 (c + 1) (p + 2)) with
          | none => rfl
          | some b =>
            dsimp only
            rw [Option.isSome_map]
    by_cases h9 : w.1 (c + 1) p = -u32 9
    · rw [if_pos h9]
      have e : lastOf (w.1 (c + 1) p) = some none := if_pos h9
      rw [e, ← fin (some none) rfl]
      exact rest none
    · rw [if_neg h9]
      have e : lastOf (w.1 (c + 1) p) = (wordOf (w.1 (c + 1) p)).map some := if_neg h9
      rw [e]
      rcases wordOf_cases (w.1 (c + 1) p) with ⟨e1, hb⟩ | ⟨v, e1, hv, ev⟩
      · rw [e1, ho_within_bad hb (by decide)]
        simp only [sm_cI_some, if_true]
        rfl
      · rw [e1]
        have h := fin (some (some v)) rfl
        rw [show Option.map some (some v) = some (some v) from rfl, ← h, ev, ho_within_good hv (by decide)]
        simp only [sm_cI_some, u10, if_false]
        exact rest (some v)
