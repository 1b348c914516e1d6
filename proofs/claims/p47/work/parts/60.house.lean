/-! pure: a house as it is: speakers, kinds, words, rooms, breath, hour, order (the latest ahead) -/
abbrev HV : Type := Nat × (Nat → Nat) × (Nat → Nat) × (Nat → Nat) × (Nat → Nat) × Nat × List (Nat × Nat)
def hN (H : HV) : Nat := H.1
def hK (H : HV) : Nat → Nat := H.2.1
def hW (H : HV) : Nat → Nat := H.2.2.1
def hR (H : HV) : Nat → Nat := H.2.2.2.1
def hB (H : HV) : Nat → Nat := H.2.2.2.2.1
def hH (H : HV) : Nat := H.2.2.2.2.2.1
def hO (H : HV) : List (Nat × Nat) := H.2.2.2.2.2.2
def lastW : List (Nat × Nat) → Option Nat
  | [] => none
  | p :: _ => some p.1
def ableV (k wd hr : Nat) (last : Option Nat) (x : Nat) : Bool := match k with
  | 1 => wd.testBit x || last == some x
  | 2 => wd.testBit x && hr % 2 == 0
  | 3 => wd.testBit x && last.isSome
  | 4 => wd.testBit x && (last.isSome && x % 2 == 1)
  | 5 => wd.testBit x || (match last with
    | some l => x == l || x == (l + 1) % 6
    | none => false)
  | _ => wd.testBit x
def nearV (a b : Nat) : Bool := decide (a ≤ b + 1 ∧ b ≤ a + 1)
def besideV (H : HV) (i : Nat) : Bool := match hO H with
  | [] => true
  | p :: _ => p.2 != i && nearV (hR H p.2) (hR H i)
def freeV (H : HV) (i : Nat) : Bool := decide ((hO H).length < 8) && (decide (0 < hB H i) && besideV H i)
def canV (H : HV) (i x : Nat) : Bool := freeV H i && ableV (hK H i) (hW H i) (hH H) (lastW (hO H)) x
def HOk (H : HV) : Prop := hN H ≤ 6 ∧ (∀ i, i < hN H → hK H i < 6 ∧ hW H i < 64 ∧ hR H i < 6 ∧ hB H i ≤ 9) ∧ hH H < 1000 ∧ (hO H).length ≤ 8 ∧ ∀ p, p ∈ hO H → p.1 < 6 ∧ p.2 < hN H
def ordC (w : sm_Mem) : List (Nat × Nat) → Prop
  | [] => True
  | p :: r => w.1 43 r.length = u32 p.1 ∧ w.1 44 r.length = u32 p.2 ∧ ordC w r
def CH (w : sm_Mem) (H : HV) : Prop := w.1 36 0 = u32 (hN H) ∧ (∀ i, i < hN H → w.1 37 i = u32 (hK H i) ∧ w.1 38 i = u32 (hW H i) ∧ w.1 41 i = u32 (hR H i) ∧ w.1 42 i = u32 (hB H i)) ∧ w.1 36 7 = u32 (hH H) ∧ w.1 36 11 = u32 (hO H).length ∧ ordC w (hO H)
/-! words had, by bits -/
theorem u32_bit {v x : Nat} (hv : v < 64) (hx : x < 6) : ((u32 v >>> (u32 x &&& u32 31)) &&& u32 1) = u32 (v.testBit x).toNat := by
  have key : ∀ v, v < 64 → ∀ x, x < 6 → ((u32 v >>> (u32 x &&& u32 31)) &&& u32 1) = u32 (v.testBit x).toNat := by decide +kernel
  exact key v hv x hx
theorem u32_bool_eq0 {b : Bool} : (u32 b.toNat = u32 0) = (b = false) := by
  cases b
  · exact propext ⟨fun _ => rfl, fun _ => rfl⟩
  · exact propext ⟨fun h => absurd h (by decide), fun h => absurd h (by decide)⟩
theorem u32_bool_eq1 {b : Bool} : (u32 b.toNat = u32 1) = (b = true) := by
  cases b
  · exact propext ⟨fun h => absurd h (by decide), fun h => absurd h (by decide)⟩
  · exact propext ⟨fun _ => rfl, fun _ => rfl⟩
def oAns : Option Nat → Int32
  | none => -u32 9
  | some e => u32 e
theorem oAns_none {o : Option Nat} (h : ∀ l, o = some l → l < 6) : (oAns o = -u32 9) = (o = none) := by
  cases o with
  | none => exact propext ⟨fun _ => rfl, fun _ => rfl⟩
  | some l =>
    have := h l rfl
    unfold oAns
    rw [u32_eq_neg (by omega) (by decide) (by decide)]
    exact propext ⟨False.elim, fun h => by cases h⟩
theorem u32_oAns {o : Option Nat} {x : Nat} (hx : x < 6) (h : ∀ l, o = some l → l < 6) : (u32 x = oAns o) = (o = some x) := by
  cases o with
  | none =>
    unfold oAns
    rw [u32_eq_neg (by omega) (by decide) (by decide)]
    exact propext ⟨False.elim, fun h => by cases h⟩
  | some l =>
    have := h l rfl
    unfold oAns
    rw [u32_eq (by omega) (by omega)]
    exact propext ⟨fun h => by rw [h], fun h => by cases h; rfl⟩
theorem ho_isAble_19 {k hr x : Nat} {o : Option Nat} {b : Bool} {w : sm_Mem} (hk : k < 6) (hx : x < 6) (ho : ∀ l, o = some l → l < 6) (hh : hr < 1000) (hw : w.1 36 7 = u32 hr) (wd : Nat) (hb : wd.testBit x = b) : ff_hs_isAble_19 (u32 k) (oAns o) (u32 x) (u32 b.toNat) w = some (.int (u32 (ableV k wd hr o x).toNat), w) := by
  unfold ff_hs_isAble_19
  have e2 : (u32 hr - u32 hr / u32 2 * u32 2) = u32 (hr % 2) := by
    simp (disch := omega) only [u32_div, u32_mul, u32_sub]
    rw [show hr - hr / 2 * 2 = hr % 2 by omega]
  have e3 : (u32 x - u32 x / u32 2 * u32 2) = u32 (x % 2) := by
    simp (disch := omega) only [u32_div, u32_mul, u32_sub]
    rw [show x - x / 2 * 2 = x % 2 by omega]
  have hz : (u32 2 = u32 0) = False := eq_false (by decide)
  have hz6 : (u32 6 = u32 0) = False := eq_false (by decide)
  have e1 : sm_sw (u32 k) 1 = sm_sw (u32 k) ((1 : Nat) : Int) := rfl
  unfold ableV
  rw [hb]
  simp only [u32_lit, hw, e2, e3, hz, hz6, if_false, e1]
  simp (disch := omega) only [sm_sw_u, oAns_none ho, u32_oAns hx ho, u32_bool_eq0]
  rcases (show k = 0 ∨ k = 1 ∨ k = 2 ∨ k = 3 ∨ k = 4 ∨ k = 5 by omega) with rfl | rfl | rfl | rfl | rfl | rfl
  · simp only [show (0 : Nat) < 1 from by decide, if_true]
    cases b <;> rfl
  · cases b with
    | true => rfl
    | false =>
      show (if o = some x then _ else _) = _
      by_cases h : o = some x
      · rw [if_pos h, h]; simp
      · rw [if_neg h]
        have : (o == some x) = false := by simpa using h
        simp [this, u32]
  · cases b with
    | false => rfl
    | true =>
      show (if u32 (hr % 2) = u32 0 then _ else _) = _
      rcases (show hr % 2 = 0 ∨ hr % 2 = 1 by omega) with h | h <;> rw [h] <;> rfl
  · cases b with
    | false => rfl
    | true =>
      show (if o = none then _ else _) = _
      cases o <;> rfl
  · cases b with
    | false => rfl
    | true =>
      show (if o = none then _ else (if u32 (x % 2) = u32 1 then _ else _)) = _
      cases o with
      | none => rfl
      | some l => rcases (show x % 2 = 0 ∨ x % 2 = 1 by omega) with h | h <;> rw [h] <;> rfl
  · cases b with
    | true => rfl
    | false =>
      cases o with
      | none => rfl
      | some l =>
        have hl := ho l rfl
        have e4 : (oAns (some l) + u32 1 - (oAns (some l) + u32 1) / u32 6 * u32 6) = u32 ((l + 1) % 6) := by
          unfold oAns
          simp (disch := omega) only [u32_div, u32_mul, u32_sub, u32_add]
          rw [show l + 1 - (l + 1) / 6 * 6 = (l + 1) % 6 by omega]
        show (if some l = none then (some (Value.int (u32 0), w)) else (if some l = some x then _ else (if u32 x = (oAns (some l) + u32 1 - (oAns (some l) + u32 1) / u32 6 * u32 6) then _ else _))) = _
        rw [e4, if_neg (by simp)]
        simp (disch := omega) only [u32_eq]
        by_cases h1 : some l = some x
        · rw [if_pos h1]
          cases h1
          simp [u32]
        · rw [if_neg h1]
          have h1' : ¬ x = l := fun h => h1 (by rw [h])
          by_cases h2 : x = (l + 1) % 6
          · rw [if_pos h2]
            have : (x == (l + 1) % 6) = true := by simpa using h2
            simp [this, u32]
          · rw [if_neg h2]
            have h3 : (x == (l + 1) % 6) = false := by simpa using h2
            have h4 : (x == l) = false := by simpa using h1'
            simp [h3, h4, u32]
theorem HOk.last {H : HV} (h : HOk H) : ∀ l, lastW (hO H) = some l → l < 6 := by
  intro l hl
  obtain ⟨-, -, -, -, h5⟩ := h
  cases ho : hO H with
  | nil => rw [ho] at hl; cases hl
  | cons p r =>
    rw [ho] at hl
    cases hl
    exact (h5 p (by rw [ho]; exact List.mem_cons_self)).1
theorem ho_isAble {H : HV} {i k x : Nat} {o : Option Nat} {w : sm_Mem} (h : CH w H) (hok : HOk H) (hi : i < hN H) (hk : k < 6) (hx : x < 6) (ho : ∀ l, o = some l → l < 6) : ff_hs_isAble (u32 i) (u32 k) (oAns o) (u32 x) w = some (.int (u32 (ableV k (hW H i) (hH H) o x).toNat), w) := by
  have h6 := hok.1
  have hv := (hok.2.1 i hi).2.1
  unfold ff_hs_isAble
  simp (disch := omega) only [u32_lit, sm_rd_u, sm_bind_some, (h.2.1 i hi).2.1, u32_bit hv hx, u32_bool_eq0]
  cases hb : (hW H i).testBit x with
  | false =>
    rw [if_pos rfl]
    exact ho_isAble_19 (b := false) hk hx ho hok.2.2.1 h.2.2.1 (hW H i) hb
  | true =>
    rw [if_neg (by decide)]
    exact ho_isAble_19 (b := true) hk hx ho hok.2.2.1 h.2.2.1 (hW H i) hb
theorem near_c {a b : Nat} (ha : a < 6) (hb : b < 6) : (u32 1 < (if u32 0 ≤ u32 a - u32 b then u32 a - u32 b else u32 0 - (u32 a - u32 b))) = (nearV a b = false) := by
  have key : ∀ a, a < 6 → ∀ b, b < 6 → (decide (u32 1 < (if u32 0 ≤ u32 a - u32 b then u32 a - u32 b else u32 0 - (u32 a - u32 b))) = !nearV a b) := by decide +kernel
  have h := key a ha b hb
  cases hn : nearV a b with
  | false => rw [hn] at h; exact propext ⟨fun _ => rfl, fun _ => of_decide_eq_true h⟩
  | true => rw [hn] at h; exact propext ⟨fun q => absurd q (of_decide_eq_false h), fun q => by cases q⟩
theorem ho_lastWord {H : HV} {w : sm_Mem} (h : CH w H) (hok : HOk H) : ff_hs_lastWord w = some (.int (oAns (lastW (hO H))), w) := by
  obtain ⟨-, -, -, h4, h5⟩ := h
  have h8 := hok.2.2.2.1
  unfold ff_hs_lastWord
  rw [h4]
  cases ho : hO H with
  | nil =>
    simp (disch := omega) only [u32_lit, sm_let_eq, sm_bind_some, sm_cI_some, sm_cV_some, sm_cL_some, sm_rd_u, sm_wr_u, u32_add, u32_mul, u32_sub, u32_le, u32_lt, u32_eq, u32_eq_neg, u32_neg_eq, u32_neg_neg, u32_le_neg, u32_neg_lt, u32_lt_neg, u32_neg_le, u10, u01, u3n0, u1n0, u4n0, n9_lt, n1_lt, n9_neg, n1_neg, if_true, if_false, if_pos, if_neg, ne_eq, not_true_eq_false, not_false_eq_true, List.length_nil]
    rfl
  | cons p r =>
    rw [ho] at h5 h8
    rw [List.length_cons] at h8
    simp (disch := omega) only [u32_lit, sm_let_eq, sm_bind_some, sm_cI_some, sm_cV_some, sm_cL_some, sm_rd_u, sm_wr_u, u32_add, u32_mul, u32_sub, u32_le, u32_lt, u32_eq, u32_eq_neg, u32_neg_eq, u32_neg_neg, u32_le_neg, u32_neg_lt, u32_lt_neg, u32_neg_le, u10, u01, u3n0, u1n0, u4n0, n9_lt, n1_lt, n9_neg, n1_neg, if_true, if_false, if_pos, if_neg, ne_eq, not_true_eq_false, not_false_eq_true, List.length_cons, Nat.add_sub_cancel, h5.1]
    rfl
theorem nearV_comm {a b : Nat} : nearV a b = nearV b a := by
  unfold nearV
  exact decide_eq_decide.mpr ⟨fun h => ⟨h.2, h.1⟩, fun h => ⟨h.2, h.1⟩⟩
theorem ho_isFree {H : HV} {i : Nat} {w : sm_Mem} (h : CH w H) (hok : HOk H) (hi : i < hN H) : ff_hs_isFree (u32 i) w = some (.int (u32 (freeV H i).toNat), w) := by
  obtain ⟨-, h2, -, h4, h5⟩ := h
  obtain ⟨g1, g2, g3, g4, g5⟩ := hok
  unfold ff_hs_isFree freeV besideV
  rw [h4]
  by_cases h8 : 8 ≤ (hO H).length
  · simp (disch := omega) only [u32_lit, sm_let_eq, sm_bind_some, sm_cI_some, sm_cV_some, sm_cL_some, sm_rd_u, sm_wr_u, u32_add, u32_mul, u32_sub, u32_le, u32_lt, u32_eq, u32_eq_neg, u32_neg_eq, u32_neg_neg, u32_le_neg, u32_neg_lt, u32_lt_neg, u32_neg_le, u10, u01, u3n0, u1n0, u4n0, n9_lt, n1_lt, n9_neg, n1_neg, if_true, if_false, if_pos, if_neg, ne_eq, not_true_eq_false, not_false_eq_true]
    have : decide ((hO H).length < 8) = false := by simp; omega
    rw [this]
    rfl
  · have e8 : decide ((hO H).length < 8) = true := by simp; omega
    have hb9 := (g2 i hi).2.2.2
    simp (disch := omega) only [u32_lit, u32_le, if_neg, sm_rd_u, sm_bind_some, (h2 i hi).2.2.2, u32_lt, e8, Bool.true_and]
    by_cases hb : 0 < hB H i
    · have eb : decide (0 < hB H i) = true := by simpa using hb
      rw [if_pos hb, eb, Bool.true_and]
      cases ho : hO H with
      | nil => simp (disch := omega) only [u32_lit, sm_let_eq, sm_bind_some, sm_cI_some, sm_cV_some, sm_cL_some, sm_rd_u, sm_wr_u, u32_add, u32_mul, u32_sub, u32_le, u32_lt, u32_eq, u32_eq_neg, u32_neg_eq, u32_neg_neg, u32_le_neg, u32_neg_lt, u32_lt_neg, u32_neg_le, u10, u01, u3n0, u1n0, u4n0, n9_lt, n1_lt, n9_neg, n1_neg, if_true, if_false, if_pos, if_neg, ne_eq, not_true_eq_false, not_false_eq_true, List.length_nil, Bool.toNat_true]
      | cons p r =>
        rw [ho] at h5 h8 g5
        rw [List.length_cons] at h8
        have gp := g5 p List.mem_cons_self
        have hr := (g2 p.2 gp.2).2.2.1
        have hri := (g2 i hi).2.2.1
        simp (disch := omega) only [u32_lit, List.length_cons, u32_eq, if_neg, u32_sub, sm_rd_u, sm_bind_some, Nat.add_sub_cancel, h5.2.1, (h2 p.2 gp.2).2.2.1, (h2 i hi).2.2.1, near_c hr hri]
        by_cases hpi : p.2 = i
        · rw [if_pos hpi]
          have : (p.2 != i) = false := by simp [hpi]
          rw [this]
          rfl
        · rw [if_neg hpi]
          have : (p.2 != i) = true := by simpa using hpi
          rw [this, Bool.true_and]
          cases nearV (hR H p.2) (hR H i) <;> rfl
    · rw [if_neg hb]
      have eb : decide (0 < hB H i) = false := by simpa using hb
      rw [eb]
      rfl
theorem ho_can {H : HV} {i x : Nat} {w : sm_Mem} (h : CH w H) (hok : HOk H) (hi : i < hN H) (hx : x < 6) : ff_hs_can (u32 i) (u32 x) w = some (.int (u32 (canV H i x).toNat), w) := by
  have h6 := hok.1
  have hk := (hok.2.1 i hi).1
  unfold ff_hs_can canV
  simp (disch := omega) only [u32_lit, ho_isFree h hok hi, sm_cI_some, u32_bool_eq0, sm_rd_u, sm_bind_some, (h.2.1 i hi).1, ho_lastWord h hok, ho_isAble h hok hi hk hx hok.last]
  cases freeV H i with
  | false => rfl
  | true =>
    rw [if_neg (by decide), Bool.true_and]
    cases ableV (hK H i) (hW H i) (hH H) (lastW (hO H)) x <;> rfl
def lastWho : List (Nat × Nat) → Option Nat
  | [] => none
  | p :: _ => some p.2
