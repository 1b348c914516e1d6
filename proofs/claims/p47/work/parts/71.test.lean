/-! pure: kinds, test -/
def fitV (H : HV) (i k : Nat) (t : Tr) : Bool := ableV k (hW H i) (hH H) t.1 t.2.1 == t.2.2
theorem u32_bool_inj {a b : Bool} : (u32 a.toNat = u32 b.toNat) = ((a == b) = true) := by
  cases a <;> cases b
  · exact propext ⟨fun _ => rfl, fun _ => rfl⟩
  · exact propext ⟨fun h => absurd h (by decide), fun h => absurd h (by decide)⟩
  · exact propext ⟨fun h => absurd h (by decide), fun h => absurd h (by decide)⟩
  · exact propext ⟨fun _ => rfl, fun _ => rfl⟩
/-- the triples lie at g -/
def TrAt (g : Nat → Int32) (L : List Tr) : Prop := ∀ k t, L[k]? = some t → g (3 * k) = oAns t.1 ∧ (∀ l, t.1 = some l → l < 6) ∧ g (3 * k + 1) = u32 t.2.1 ∧ t.2.1 < 6 ∧ g (3 * k + 2) = u32 t.2.2.toNat
theorem drop_cons {α : Type} {L : List α} {k : Nat} {t : α} {l : List α} (h : L.drop k = t :: l) : L[k]? = some t ∧ L.drop (k + 1) = l ∧ k < L.length := by
  have h1 : k < L.length := by
    rcases Nat.lt_or_ge k L.length with q | q
    · exact q
    · rw [List.drop_eq_nil_of_le q] at h
      cases h
  refine ⟨?_, ?_, h1⟩
  · rw [← List.head?_drop, h]
    rfl
  · rw [← List.drop_drop, h]
    rfl
theorem ho_fits_loop {H : HV} {i k c : Nat} {L : List Tr} {w : sm_Mem} (h : CH w H) (hok : HOk H) (hi : i < hN H) (hk : k < 6) (hR : isRow c 40) (hL : 3 * L.length ≤ 40) (hw : w.1 c 1 = u32 (3 * L.length)) (hT : TrAt (w.1 (c + 1)) L) : ∀ (l : List Tr) (q F : Nat), L.drop q = l → l.length < F → q ≤ L.length → ff_ho_fits_3_f F (u32 i) (u32 k) c (u32 (3 * q)) w = some (.int (u32 (l.all (fitV H i k)).toNat), w) := by
  intro l
  induction l with
  | nil =>
    intro q F hq hF hqL
    obtain ⟨F, rfl⟩ : ∃ G, F = G + 1 := ⟨F - 1, by omega⟩
    have : L.length ≤ q := by
      have := congrArg List.length hq
      rw [List.length_drop] at this
      simp at this
      omega
    rw [ff_ho_fits_3_f]
    unfold ff_ho_fits_3_b
    simp (disch := omega) only [u32_lit, sm_let_eq, sm_bind_some, sm_cI_some, sm_cV_some, sm_cL_some, sm_rd_u, sm_wr_u, u32_add, u32_mul, u32_sub, u32_le, u32_lt, u32_eq, u32_eq_neg, u32_neg_eq, u32_neg_neg, u32_le_neg, u32_neg_lt, u32_lt_neg, u32_neg_le, u10, u01, u3n0, u1n0, u4n0, n9_lt, n1_lt, n9_neg, n1_neg, if_true, if_false, if_pos, if_neg, ne_eq, not_true_eq_false, not_false_eq_true, hR.gI, hw, List.all_nil, Bool.toNat_true]
  | cons t l ih =>
    intro q F hq hF hqL
    rw [List.length_cons] at hF
    obtain ⟨F, rfl⟩ : ∃ G, F = G + 1 := ⟨F - 1, by omega⟩
    obtain ⟨a1, a2, a3⟩ := drop_cons hq
    obtain ⟨b1, b2, b3, b4, b5⟩ := hT q t a1
    have ih := ih (q + 1) F a2 (by omega) (by omega)
    rw [Nat.mul_add, Nat.mul_one] at ih
    rw [ff_ho_fits_3_f]
    unfold ff_ho_fits_3_b ff_ho_fits_61
    simp (disch := omega) only [u32_lit, sm_bind_some, hR.gI, hw, hR.fk, u32_add, u32_le, if_neg, hR.rds (show 3 * q < 40 by omega), hR.rds (show 3 * q + 1 < 40 by omega), hR.rds (show 3 * q + 2 < 40 by omega), b1, b3, b5, ho_isAble h hok hi hk b4 b2, sm_cI_some, ih, List.all_cons]
    have e : ∀ (b : Bool) (x : sm_R) (y : sm_R), (if u32 b.toNat = u32 1 then (if u32 (ableV k (hW H i) (hH H) t.1 t.2.1).toNat = u32 1 then x else y) else (if u32 (ableV k (hW H i) (hH H) t.1 t.2.1).toNat = u32 0 then x else y)) = if (ableV k (hW H i) (hH H) t.1 t.2.1 == b) = true then x else y := by
      intro b x y
      cases b <;> cases ableV k (hW H i) (hH H) t.1 t.2.1 <;> rfl
    rw [e]
    unfold fitV
    cases (ableV k (hW H i) (hH H) t.1 t.2.1 == t.2.2) <;> rfl
def kindV (H : HV) (i : Nat) (L : List Tr) (k : Nat) : Bool := L.all (fitV H i k)
theorem ho_kindsBy_loop {H : HV} {i c : Nat} {L : List Tr} {w : sm_Mem} (h : CH w H) (hok : HOk H) (hi : i < hN H) (hR : isRow c 40) (hL : 3 * L.length ≤ 40) (hw : w.1 c 1 = u32 (3 * L.length)) (hT : TrAt (w.1 (c + 1)) L) : ∀ (m k F : Nat) (a : Int32), k + m = 6 → m < F → ff_ho_kindsBy_5_f F (u32 i) c a (u32 k) w = some (.int (orF (kindV H i L) k m a), w) := by
  intro m
  induction m with
  | zero =>
    intro k F a hm hF
    obtain ⟨F, rfl⟩ : ∃ G, F = G + 1 := ⟨F - 1, by omega⟩
    rw [ff_ho_kindsBy_5_f]
    unfold ff_ho_kindsBy_5_b
    simp (disch := omega) only [u32_lit, sm_let_eq, sm_bind_some, sm_cI_some, sm_cV_some, sm_cL_some, sm_rd_u, sm_wr_u, u32_add, u32_mul, u32_sub, u32_le, u32_lt, u32_eq, u32_eq_neg, u32_neg_eq, u32_neg_neg, u32_le_neg, u32_neg_lt, u32_lt_neg, u32_neg_le, u10, u01, u3n0, u1n0, u4n0, n9_lt, n1_lt, n9_neg, n1_neg, if_true, if_false, if_pos, if_neg, ne_eq, not_true_eq_false, not_false_eq_true, orF]
  | succ m ih =>
    intro k F a hm hF
    obtain ⟨F, rfl⟩ : ∃ G, F = G + 1 := ⟨F - 1, by omega⟩
    have hk : k < 6 := by omega
    have hf : ff_ho_fits (u32 i) (u32 k) c w = some (.int (u32 (kindV H i L k).toNat), w) := by
      unfold ff_ho_fits ff_ho_fits_3
      rw [sm_N_eq, u32_lit]
      exact ho_fits_loop h hok hi hk hR hL hw hT L 0 1000000 rfl (by omega) (by omega)
    rw [ff_ho_kindsBy_5_f]
    unfold ff_ho_kindsBy_5_b
    simp (disch := omega) only [u32_lit, u32_le, if_neg, hf, sm_cI_some, u32_bool_eq0, u32_add, orF]
    cases kindV H i L k with
    | false =>
      rw [if_pos rfl, ih (k + 1) F a (by omega) (by omega)]
      rfl
    | true =>
      rw [if_neg (by decide), ih (k + 1) F _ (by omega) (by omega)]
      rfl
theorem tr_of {w : sm_Mem} {g : Nat → Int32} {n : Nat} {L : List Tr} (h : trips g 0 (n / 3) = some L) (h3 : n % 3 = 0) : 3 * L.length = n ∧ TrAt g L := by
  obtain ⟨h1, h2⟩ := trips_at (n / 3) 0 L h
  refine ⟨by omega, fun k t ht => ?_⟩
  have := h2 k t ht
  rw [Nat.zero_add] at this
  exact this
