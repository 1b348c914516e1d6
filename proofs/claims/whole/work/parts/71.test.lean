/-! pure: kinds, test -/
def fitV (H : HV) (i k : Nat) (t : Tr) : Bool := ableV k (hW H i) (hH H) t.1 t.2.1 == t.2.2
theorem u32_bool_inj {a b : Bool} : (u32 a.toNat = u32 b.toNat) = ((a == b) = true) := by
  cases a <;> cases b
  · exact propext ⟨fun _ => rfl, fun _ => rfl⟩
  · exact propext ⟨fun h => absurd h (by decide), fun h => absurd h (by decide)⟩
  · exact propext ⟨fun h => absurd h (by decide), fun h => absurd h (by decide)⟩
  · exact propext ⟨fun _ => rfl, fun _ => rfl⟩
/-- the triples lie at g -/
def TrAt (g : Nat → Int32) (L : List Tr) : Prop := ∀ k t, L[k]? = some t → g (3 * k) = oAns t.1 ∧ (∀ l, t.1 = some l → l < 6) ∧ g (3 * k + 1) = u32 t.2.1 ∧ t.2.1 < 6 ∧ g (3 * k + 2) = u32 t.2.2.toNat
theorem drop_cons {α : Type} {L : List α} {k : Nat} {t : α} {l : List α} (h : L.drop k = t :: l) : L[k]? = some t ∧ L.drop (k + 1) = l ∧ k < L.length := by
  have h1 : k < L.length := by
    rcases Nat.lt_or_ge k L.length with q | q
    · exact q
    · rw [List.drop_eq_nil_of_le q] at h
      cases h
  refine ⟨?_, ?_, h1⟩
  · rw [← List.head?_drop, h]
    rfl
  · rw [← List.drop_drop, h]
    rfl
theorem ho_fits_loop {H : HV} {i k c : Nat} {L : List Tr} {w : sm_Mem} (h : CH w H) (hok : HOk H) (hi : i < hN H) (hk : k < 6) (hR : isRow c 40) (hL : 3 * L.length ≤ 40) (hw : w.1 c 1 = u32 (3 * L.length)) (hT : TrAt (w.1 (c + 1)) L) : ∀ (l : List Tr) (q F : Nat), L.drop q = l → l.length < F → q ≤ L.length → ff_ho_fits_3_f F (u32 i) (u32 k) c (u32 (3 * q)) w = some (.int (u32 (l.all (fitV H i k)).toNat), w) := by
  intro l
  induction l with
  | nil =>
    intro q F hq hF hqL
    obtain ⟨F, rfl⟩ : ∃ G, F = G + 1 := ⟨F - 1, by omega⟩
    have : L.length ≤ q := by
      have := congrArg List.length hq
      rw [List.length_drop] at this
      simp at this
      omega
    rw [ff_ho_fits_3_f]
    unfold ff_ho_fits_3_b
    simp (disch := omega) only [u32_lit, sm_let_eq, sm_bind_some, sm_cI_some, sm_cV_some, sm_cL_some, sm_rd_u, sm_wr_u, u32_add, u32_mul, u32_sub, u32_le, u32_lt, u32_eq, u32_eq_neg, u32_neg_eq, u32_neg_neg, u32_le_neg, u32_neg_lt, u32_lt_neg, u32_neg_le, u10, u01, u3n0, u1n0, u4n0, n9_lt, n1_lt, n9_neg, n1_neg, if_true, if_false, if_pos, if_neg, ne_eq, not_true_eq_false, not_false_eq_true, hR.gI, hw, List.all_nil, Bool.toNat_true]
  | cons t l ih =>
    intro q F hq hF hqL
    rw [List.length_cons] at hF
    obtain ⟨F, rfl⟩ : ∃ G, F = G + 1 := ⟨F - 1, by omega⟩
    obtain ⟨a1, a2, a3⟩ := drop_cons hq
    obtain ⟨b1, b2, b3, b4, b5⟩ := hT q t a1
    have ih := ih (q + 1) F a2 (by omega) (by omega)
    rw [Nat.mul_add, Nat.mul_one] at ih
    rw [ff_ho_fits_3_f]
    unfold ff_ho_fits_3_b ff_ho_fits_61
    simp (disch := omega) only [u32_lit, sm_bind_some, hR.gI, hw, hR.fk, u32_add, u32_le, if_neg, hR.rds (show 3 * q < 40 by omega), hR.rds (show 3 * q + 1 < 40 by omega), hR.rds (show 3 * q + 2 < 40 by omega), b1, b3, b5, ho_isAble h hok hi hk b4 b2, sm_cI_some, ih, List.all_cons]
    have e : ∀ (b : Bool) (x : sm_R) (y : sm_R), (if u32 b.toNat = u32 1 then (if u32 (ableV k (hW H i) (hH H) t.1 t.2.1).toNat = u32 1 then x else y) else (if u32 (ableV k (hW H i) (hH H) t.1 t.2.1).toNat = u32 0 then x else y)) = if (ableV k (hW H i) (hH H) t.1 t.2.1 == b) = true then x else y := by
      intro b x y
      cases b <;> cases ableV k (hW H i) (hH H) t.1 t.2.1 <;> rfl
    rw [e]
    unfold fitV
    cases (ableV k (hW H i) (hH H) t.1 t.2.1 == t.2.2) <;> rfl
def kindV (H : HV) (i : Nat) (L : List Tr) (k : Nat) : Bool := L.all (fitV H i k)
theorem ho_kindsBy_loop {H : HV} {i c : Nat} {L : List Tr} {w : sm_Mem} (h : CH w H) (hok : HOk H) (hi : i < hN H) (hR : isRow c 40) (hL : 3 * L.length ≤ 40) (hw : w.1 c 1 = u32 (3 * L.length)) (hT : TrAt (w.1 (c + 1)) L) : ∀ (m k F : Nat) (a : Int32), k + m = 6 → m < F → ff_ho_kindsBy_5_f F (u32 i) c a (u32 k) w = some (.int (orF (kindV H i L) k m a), w) := by
  intro m
  induction m with
  | zero =>
    intro k F a hm hF
    obtain ⟨F, rfl⟩ : ∃ G, F = G + 1 := ⟨F - 1, by omega⟩
    rw [ff_ho_kindsBy_5_f]
    unfold ff_ho_kindsBy_5_b
    simp (disch := omega) only [u32_lit, sm_let_eq, sm_bind_some, sm_cI_some, sm_cV_some, sm_cL_some, sm_rd_u, sm_wr_u, u32_add, u32_mul, u32_sub, u32_le, u32_lt, u32_eq, u32_eq_neg, u32_neg_eq, u32_neg_neg, u32_le_neg, u32_neg_lt, u32_lt_neg, u32_neg_le, u10, u01, u3n0, u1n0, u4n0, n9_lt, n1_lt, n9_neg, n1_neg, if_true, if_false, if_pos, if_neg, ne_eq, not_true_eq_false, not_false_eq_true, orF]
  | succ m ih =>
    intro k F a hm hF
    obtain ⟨F, rfl⟩ : ∃ G, F = G + 1 := ⟨F - 1, by omega⟩
    have hk : k < 6 := by omega
    have hf : ff_ho_fits (u32 i) (u32 k) c w = some (.int (u32 (kindV H i L k).toNat), w) := by
      unfold ff_ho_fits ff_ho_fits_3
      rw [sm_N_eq, u32_lit]
      exact ho_fits_loop h hok hi hk hR hL hw hT L 0 1000000 rfl (by omega) (by omega)
    rw [ff_ho_kindsBy_5_f]
    unfold ff_ho_kindsBy_5_b
    simp (disch := omega) only [u32_lit, u32_le, if_neg, hf, sm_cI_some, u32_bool_eq0, u32_add, orF]
    cases kindV H i L k with
    | false =>
      rw [if_pos rfl, ih (k + 1) F a (by omega) (by omega)]
      rfl
    | true =>
      rw [if_neg (by decide), ih (k + 1) F _ (by omega) (by omega)]
      rfl
theorem mo_kinds_no {r : Nat} {L : List Tr} {w : sm_Mem} (hr : r < 6) (hL : 3 * L.length ≤ 40) (hw : w.1 67 r = u32 (3 * L.length)) (self5 : Int32 → Int32 → Int32 → Int32 → sm_Mem → sm_R) (i k : Nat) (a : Int32) : ∀ (m q F : Nat), q + m = L.length → m < F → ff_mo_kindsBy_21_f self5 F (u32 i) (u32 r) a (u32 k) (u32 0) (u32 (40 * r + 3 * q)) w = self5 (u32 i) (u32 r) a (u32 k + u32 1) w := by
  intro m
  induction m with
  | zero =>
    intro q F hq hF
    obtain ⟨F, rfl⟩ : ∃ G, F = G + 1 := ⟨F - 1, by omega⟩
    rw [ff_mo_kindsBy_21_f]
    unfold ff_mo_kindsBy_21_b ff_mo_kindsBy_123
    have e : ∀ x : Int32, x ||| u32 0 = x := or_u0
    simp (disch := omega) only [u32_lit, sm_rd_u, sm_bind_some, hw, u32_mul, u32_add, u32_le, if_pos, if_true, e]
  | succ m ih =>
    intro q F hq hF
    obtain ⟨F, rfl⟩ : ∃ G, F = G + 1 := ⟨F - 1, by omega⟩
    rw [ff_mo_kindsBy_21_f]
    unfold ff_mo_kindsBy_21_b ff_mo_kindsBy_100
    have ih := ih (q + 1) F (by omega) (by omega)
    rw [Nat.mul_add, Nat.mul_one, ← Nat.add_assoc] at ih
    simp (disch := omega) only [u32_lit, sm_rd_u, sm_bind_some, hw, u32_mul, u32_add, u32_le, if_neg, if_true] at ih ⊢
    exact ih
theorem mo_kinds_loop {H : HV} {i r k : Nat} {L : List Tr} {w : sm_Mem} (h : MH w 0 H) (hok : HOk H) (hi : i < hN H) (hk : k < 6) (hr : r < 6) (hL : 3 * L.length ≤ 40) (hw : w.1 67 r = u32 (3 * L.length)) (hT : TrAt (fun j => w.1 68 (40 * r + j)) L) (self5 : Int32 → Int32 → Int32 → Int32 → sm_Mem → sm_R) (a : Int32) : ∀ (l : List Tr) (q F : Nat), L.drop q = l → l.length < F → q ≤ L.length → ff_mo_kindsBy_21_f self5 F (u32 i) (u32 r) a (u32 k) (u32 1) (u32 (40 * r + 3 * q)) w = self5 (u32 i) (u32 r) (if l.all (fitV H i k) = true then a ||| (u32 1 <<< (u32 k &&& u32 31)) else a) (u32 (k + 1)) w := by
  have h6 := hok.1
  have hv := (hok.2.1 i hi).2.1
  have hh := h.2.2.1
  rw [Nat.zero_add] at hh
  intro l
  induction l with
  | nil =>
    intro q F hq hF hqL
    obtain ⟨F, rfl⟩ : ∃ G, F = G + 1 := ⟨F - 1, by omega⟩
    have : L.length ≤ q := by
      have := congrArg List.length hq
      rw [List.length_drop] at this
      simp at this
      omega
    rw [ff_mo_kindsBy_21_f]
    unfold ff_mo_kindsBy_21_b ff_mo_kindsBy_123
    simp (disch := omega) only [u32_lit, sm_rd_u, sm_bind_some, hw, u32_mul, u32_add, u32_le, if_pos, u10, if_false, List.all_nil, if_true]
  | cons t l ih =>
    intro q F hq hF hqL
    rw [List.length_cons] at hF
    obtain ⟨F, rfl⟩ : ∃ G, F = G + 1 := ⟨F - 1, by omega⟩
    obtain ⟨a1, a2, a3⟩ := drop_cons hq
    obtain ⟨b1, b2, b3, b4, b5⟩ := hT q t a1
    dsimp only at b1 b3 b5
    have ih := ih (q + 1) F a2 (by omega) (by omega)
    have hlen : q + 1 + l.length = L.length := by
      have := congrArg List.length hq
      rw [List.length_drop, List.length_cons] at this
      omega
    have hno := mo_kinds_no hr hL hw self5 i k a l.length (q + 1) F hlen (by omega)
    rw [Nat.mul_add, Nat.mul_one, ← Nat.add_assoc] at ih hno
    rw [u32_add] at hno
    rw [ff_mo_kindsBy_21_f]
    unfold ff_mo_kindsBy_21_b ff_mo_kindsBy_93 ff_mo_kindsBy_100
    rw [← Nat.add_assoc] at b3 b5
    simp (disch := omega) only [u32_lit, sm_rd_u, sm_bind_some, hw, u32_mul, u32_add, u32_le, if_neg, u10, if_false, (h.2.1 i hi).2.1, b1, b3, b5, hh, mo_isAble hk hv b4 b2 hok.2.2.1, sm_cI_some, ih, hno, List.all_cons]
    have e : ∀ (b : Bool) (x : sm_R) (y : sm_R), (if u32 b.toNat = u32 1 then (if u32 (ableV k (hW H i) (hH H) t.1 t.2.1).toNat = u32 1 then x else y) else (if u32 (ableV k (hW H i) (hH H) t.1 t.2.1).toNat = u32 0 then x else y)) = if (ableV k (hW H i) (hH H) t.1 t.2.1 == b) = true then x else y := by
      intro b x y
      cases b <;> cases ableV k (hW H i) (hH H) t.1 t.2.1 <;> rfl
    rw [e]
    show (if fitV H i k t = true then _ else _) = _
    by_cases hf : fitV H i k t = true
    · rw [if_pos hf]
      simp only [hf, Bool.true_and]
    · have hf2 : fitV H i k t = false := by simpa using hf
      rw [if_neg hf]
      simp only [hf2, Bool.false_and, Bool.false_eq_true, if_false]
theorem mo_kindsBy_loop {H : HV} {i r : Nat} {L : List Tr} {w : sm_Mem} (h : MH w 0 H) (hok : HOk H) (hi : i < hN H) (hr : r < 6) (hL : 3 * L.length ≤ 40) (hw : w.1 67 r = u32 (3 * L.length)) (hT : TrAt (fun j => w.1 68 (40 * r + j)) L) : ∀ (m k F : Nat) (a : Int32), k + m = 6 → m < F → ff_mo_kindsBy_5_f F (u32 i) (u32 r) a (u32 k) w = some (.int (orF (kindV H i L) k m a), w) := by
  intro m
  induction m with
  | zero =>
    intro k F a hm hF
    obtain ⟨F, rfl⟩ : ∃ G, F = G + 1 := ⟨F - 1, by omega⟩
    rw [ff_mo_kindsBy_5_f]
    unfold ff_mo_kindsBy_5_b
    simp (disch := omega) only [u32_lit, sm_let_eq, sm_bind_some, sm_cI_some, sm_cV_some, sm_cL_some, sm_rd_u, sm_wr_u, u32_add, u32_mul, u32_sub, u32_le, u32_lt, u32_eq, u32_eq_neg, u32_neg_eq, u32_neg_neg, u32_le_neg, u32_neg_lt, u32_lt_neg, u32_neg_le, u10, u01, u3n0, u1n0, u4n0, n9_lt, n1_lt, n9_neg, n1_neg, if_true, if_false, if_pos, if_neg, ne_eq, not_true_eq_false, not_false_eq_true, orF]
  | succ m ih =>
    intro k F a hm hF
    obtain ⟨F, rfl⟩ : ∃ G, F = G + 1 := ⟨F - 1, by omega⟩
    have hk : k < 6 := by omega
    rw [ff_mo_kindsBy_5_f]
    unfold ff_mo_kindsBy_5_b ff_mo_kindsBy_21
    simp (disch := omega) only [u32_lit, u32_le, if_neg, u32_mul]
    have := mo_kinds_loop h hok hi hk hr hL hw hT (ff_mo_kindsBy_5_f F) a L 0 1000000 rfl (by omega) (by omega)
    rw [Nat.mul_zero, Nat.add_zero] at this
    rw [sm_N_eq, this, ih (k + 1) F _ (by omega) (by omega), orF]
    rfl
theorem tr_of {w : sm_Mem} {g : Nat → Int32} {n : Nat} {L : List Tr} (h : trips g 0 (n / 3) = some L) (h3 : n % 3 = 0) : 3 * L.length = n ∧ TrAt g L := by
  obtain ⟨h1, h2⟩ := trips_at (n / 3) 0 L h
  refine ⟨by omega, fun k t ht => ?_⟩
  have := h2 k t ht
  rw [Nat.zero_add] at this
  exact this
/-- what both refuse of triples; else they lie there alike -/
theorem triples_both {i r : Int32} {w : sm_Mem} {B : HBase} {ds : List Deed} (hc : RC w) (hh : RHs w B ds) : (ff_ho_refusalOfTriples i r w = some (.int (-u32 1), w) ∧ (∀ f : Int32 → sm_Mem → sm_R, (sm_cI (ff_mo_isSpeaker i w) fun x1 w2 => if x1 = u32 0 then some (.int (-u32 1), w2) else sm_cI (ff_mo_isRow r w2) fun x3 w4 => if x3 = u32 0 then some (.int (-u32 1), w4) else sm_cI (ff_mo_noTriples r w4) f) = some (.int (-u32 1), w))) ∨ (∃ i' r' f : Nat, f < 6 ∧ i = u32 i' ∧ r = u32 r' ∧ i' < B.1 ∧ r' < 6 ∧ ff_ho_refusalOfTriples i r w = some (.int (-u32 3), wcRef f w) ∧ ff_mo_noTriples r (wcRef f w) = some (.int (-u32 3), wmRef f (wcRef f w))) ∨ (∃ (i' r' : Nat) (L : List Tr), i = u32 i' ∧ r = u32 r' ∧ i' < B.1 ∧ r' < 6 ∧ ff_ho_refusalOfTriples i r w = some (.int (u32 0), w) ∧ ff_mo_noTriples r w = some (.int (u32 0), w) ∧ 3 * L.length ≤ 40 ∧ w.1 (2 + 2 * r') 1 = u32 (3 * L.length) ∧ TrAt (w.1 (2 + 2 * r' + 1)) L ∧ w.1 67 r' = u32 (3 * L.length) ∧ TrAt (fun j => w.1 68 (40 * r' + j)) L) := by
  obtain ⟨hok, hn, n1, n2, n6⟩ := hh.n
  rcases aCases i B.1 with hi | ⟨i, hi, -, rfl⟩
  · refine Or.inl ⟨?_, fun f => ?_⟩
    · unfold ff_ho_refusalOfTriples
      simp (disch := omega) only [u32_lit, sm_let_eq, sm_bind_some, sm_cI_some, sm_cV_some, sm_cL_some, sm_rd_u, sm_wr_u, u32_add, u32_mul, u32_sub, u32_le, u32_lt, u32_eq, u32_eq_neg, u32_neg_eq, u32_neg_neg, u32_le_neg, u32_neg_lt, u32_lt_neg, u32_neg_le, u10, u01, u3n0, u1n0, u4n0, n9_lt, n1_lt, n9_neg, n1_neg, if_true, if_false, if_pos, if_neg, ne_eq, not_true_eq_false, not_false_eq_true, ho_isSpeaker_bad n1 n6 hi]
    · rw [mo_isSpeaker_bad n2 n6 hi]
      rfl
  rcases aCases r 6 with hr | ⟨r, hr, -, rfl⟩
  · refine Or.inl ⟨?_, fun f => ?_⟩
    · unfold ff_ho_refusalOfTriples
      simp (disch := omega) only [u32_lit, sm_let_eq, sm_bind_some, sm_cI_some, sm_cV_some, sm_cL_some, sm_rd_u, sm_wr_u, u32_add, u32_mul, u32_sub, u32_le, u32_lt, u32_eq, u32_eq_neg, u32_neg_eq, u32_neg_neg, u32_le_neg, u32_neg_lt, u32_lt_neg, u32_neg_le, u10, u01, u3n0, u1n0, u4n0, n9_lt, n1_lt, n9_neg, n1_neg, if_true, if_false, if_pos, if_neg, ne_eq, not_true_eq_false, not_false_eq_true, ho_isSpeaker_good n1 n6 hi, ho_within_bad hr]
    · rw [mo_isSpeaker_good n2 n6 hi]
      simp only [sm_cI_some, u10, if_false]
      rw [mo_isRow_bad hr]
      rfl
  have hR := isRow_row hr
  have e3 : ∀ n, n ≤ 40 → u32 n - u32 n / u32 3 * u32 3 = u32 (n % 3) := fun n hn => by
    simp (disch := omega) only [u32_div, u32_mul, u32_sub]
    rw [show n - n / 3 * 3 = n % 3 by omega]
  have hz : (u32 3 = u32 0) = False := eq_false (by decide)
  rcases (hc.1 r hr).cases with ⟨hcc, hm⟩ | ⟨n, hn40, hcc, hm, he⟩
  · refine Or.inr (Or.inl ⟨i, r, 1, by decide, rfl, rfl, hi, hr, ?_, ?_⟩)
    · unfold ff_ho_refusalOfTriples
      simp (disch := omega) only [u32_lit, sm_let_eq, sm_bind_some, sm_cI_some, sm_cV_some, sm_cL_some, sm_rd_u, sm_wr_u, u32_add, u32_mul, u32_sub, u32_le, u32_lt, u32_eq, u32_eq_neg, u32_neg_eq, u32_neg_neg, u32_le_neg, u32_neg_lt, u32_lt_neg, u32_neg_le, u10, u01, u3n0, u1n0, u4n0, n9_lt, n1_lt, n9_neg, n1_neg, if_true, if_false, if_pos, if_neg, ne_eq, not_true_eq_false, not_false_eq_true, ho_isSpeaker_good n1 n6 hi, ho_within_good hr, rr_row hr, hR.rc, rw_isMissing_none hR hcc, td_refuse]
    · unfold ff_mo_noTriples
      simp (disch := omega) only [u32_lit, sm_let_eq, sm_bind_some, sm_cI_some, sm_cV_some, sm_cL_some, sm_rd_u, sm_wr_u, u32_add, u32_mul, u32_sub, u32_le, u32_lt, u32_eq, u32_eq_neg, u32_neg_eq, u32_neg_neg, u32_le_neg, u32_neg_lt, u32_lt_neg, u32_neg_le, u10, u01, u3n0, u1n0, u4n0, n9_lt, n1_lt, n9_neg, n1_neg, if_true, if_false, if_pos, if_neg, ne_eq, not_true_eq_false, not_false_eq_true, wcRef_ne, hm, mo_find]
  by_cases h3 : n % 3 = 0
  · have hc3 : ∀ m p, p + 3 * m = n → ff_rw_isOfTriples (2 + 2 * r) w = some (.int (u32 (trips (w.1 (2 + 2 * r + 1)) 0 (n / 3)).isSome.toNat), w) := fun _ _ _ => by
      unfold ff_rw_isOfTriples ff_rw_isOfTriples_2
      rw [sm_N_eq, u32_lit]
      exact rw_triples_loop hR hn40 hcc (n / 3) 0 1000000 (by omega) (by omega)
    have hc3 := hc3 (n / 3) 0 (by omega)
    have cpre : ff_ho_refusalOfTriples (u32 i) (u32 r) w = if (trips (w.1 (2 + 2 * r + 1)) 0 (n / 3)).isSome = false then (sm_cI (ff_td_refuse (u32 3) w) fun x14 w15 => some (.int x14, w15)) else some (.int (u32 0), w) := by
      unfold ff_ho_refusalOfTriples
      simp (disch := omega) only [u32_lit, sm_cI_some, sm_bind_some, u10, hz, if_false, if_true, ho_isSpeaker_good n1 n6 hi, ho_within_good hr, rr_row hr, hR.rc, rw_isMissing_some hR (show n < 2147483648 by omega) hcc, hR.gI, hcc, e3 n hn40, h3, hc3, u32_bool_eq0]
    have eq : trips (w.1 (2 + 2 * r + 1)) 0 (n / 3) = trips (fun j => w.1 68 (40 * r + j)) 0 (n / 3) := trips_congr _ _ (fun j h1 h2 => he j (by omega))
    have mpre : ∀ w', w'.1 67 r = u32 n → (∀ j, w'.1 68 j = w.1 68 j) → ff_mo_noTriples (u32 r) w' = if (trips (w.1 (2 + 2 * r + 1)) 0 (n / 3)).isSome then some (.int (u32 0), w') else some (.int (-u32 3), wmRef 3 w') := by
      intro w' g1 g2
      have := mo_triples_loop hr hn40 g1 (n / 3) 0 1000000 (by omega) (by omega)
      rw [Nat.add_zero] at this
      simp only [g2] at this
      unfold ff_mo_noTriples
      simp (disch := omega) only [u32_lit, sm_rd_u, sm_bind_some, g1, u32_le, Nat.zero_le, if_true, hz, if_false, e3 n hn40, h3, u32_mul]
      unfold ff_mo_noTriples_39
      rw [sm_N_eq, this, eq]
    cases ht : trips (w.1 (2 + 2 * r + 1)) 0 (n / 3) with
    | none =>
      rw [ht] at cpre mpre
      refine Or.inr (Or.inl ⟨i, r, 3, by decide, rfl, rfl, hi, hr, ?_, ?_⟩)
      · rw [cpre, if_pos (show (none : Option (List Tr)).isSome = false from rfl), td_refuse (by decide)]
        rfl
      · rw [mpre _ (by rw [wcRef_ne (by decide) (by decide)]; exact hm) (fun j => by rw [wcRef_ne (by decide) (by decide)])]
        rfl
    | some L =>
      rw [ht] at cpre mpre
      obtain ⟨l1, l2⟩ := tr_of (w := w) ht h3
      obtain ⟨l3, l4⟩ := tr_of (w := w) (by rw [← eq]; exact ht) h3
      refine Or.inr (Or.inr ⟨i, r, L, rfl, rfl, hi, hr, ?_, ?_, by omega, by rw [l1]; exact hcc, l2, by rw [l1]; exact hm, l4⟩)
      · rw [cpre, if_neg (show ¬ (some L : Option (List Tr)).isSome = false from (by simp))]
      · rw [mpre w hm (fun _ => rfl)]
        rfl
  · refine Or.inr (Or.inl ⟨i, r, 5, by decide, rfl, rfl, hi, hr, ?_, ?_⟩)
    · unfold ff_ho_refusalOfTriples
      simp (disch := omega) only [u32_lit, sm_cI_some, sm_bind_some, u10, hz, if_false, if_true, ho_isSpeaker_good n1 n6 hi, ho_within_good hr, rr_row hr, hR.rc, rw_isMissing_some hR (show n < 2147483648 by omega) hcc, hR.gI, hcc, e3 n hn40, u32_eq, if_neg h3, n10, td_refuse]
    · have hm' : (wcRef 5 w).1 67 r = u32 n := by rw [wcRef_ne (by decide) (by decide)]; exact hm
      unfold ff_mo_noTriples
      simp (disch := omega) only [u32_lit, sm_rd_u, sm_bind_some, sm_cI_some, hm', u32_le, Nat.zero_le, if_true, hz, if_false, e3 n hn40, u32_eq, if_neg h3, mo_find]
theorem op_kinds {i r : Int32} {w : sm_Mem} (h : R w) : Both (ff_ho_kinds i r) (ff_mo_kinds i r) R w := by
  obtain ⟨hc, B, ds, hh⟩ := id h
  obtain ⟨hok, hn, n1, n2, n6⟩ := hh.n
  obtain ⟨h1, h2, h3, h4, h5, h6, h7, h8, h9⟩ := id hh
  rcases triples_both (i := i) (r := r) hc hh with ⟨a1, a2⟩ | ⟨i, r, f, hf, rfl, rfl, hi, hr, a1, a2⟩ | ⟨i, r, L, rfl, rfl, hi, hr, a1, a2, a3, a4, a5, a6, a7⟩
  · refine BothR_same h (-u32 1) ?_ ?_
    · unfold ff_ho_kinds
      simp (disch := omega) only [u32_lit, sm_let_eq, sm_bind_some, sm_cI_some, sm_cV_some, sm_cL_some, sm_rd_u, sm_wr_u, u32_add, u32_mul, u32_sub, u32_le, u32_lt, u32_eq, u32_eq_neg, u32_neg_eq, u32_neg_neg, u32_le_neg, u32_neg_lt, u32_lt_neg, u32_neg_le, u10, u01, u3n0, u1n0, u4n0, n9_lt, n1_lt, n9_neg, n1_neg, if_true, if_false, if_pos, if_neg, ne_eq, not_true_eq_false, not_false_eq_true, a1]
    · unfold ff_mo_kinds
      simp only [u32_lit]
      exact a2 _
  · refine BothR_ref h f ?_ ?_
    · unfold ff_ho_kinds
      simp (disch := omega) only [u32_lit, sm_let_eq, sm_bind_some, sm_cI_some, sm_cV_some, sm_cL_some, sm_rd_u, sm_wr_u, u32_add, u32_mul, u32_sub, u32_le, u32_lt, u32_eq, u32_eq_neg, u32_neg_eq, u32_neg_neg, u32_le_neg, u32_neg_lt, u32_lt_neg, u32_neg_le, u10, u01, u3n0, u1n0, u4n0, n9_lt, n1_lt, n9_neg, n1_neg, if_true, if_false, if_pos, if_neg, ne_eq, not_true_eq_false, not_false_eq_true, a1]
    · have n2' : (wcRef f w).1 62 1 = u32 B.1 := by rw [wcRef_ne (by decide) (by decide)]; exact n2
      unfold ff_mo_kinds
      simp (disch := omega) only [u32_lit, sm_let_eq, sm_bind_some, sm_cI_some, sm_cV_some, sm_cL_some, sm_rd_u, sm_wr_u, u32_add, u32_mul, u32_sub, u32_le, u32_lt, u32_eq, u32_eq_neg, u32_neg_eq, u32_neg_neg, u32_le_neg, u32_neg_lt, u32_lt_neg, u32_neg_le, u10, u01, u3n0, u1n0, u4n0, n9_lt, n1_lt, n9_neg, n1_neg, if_true, if_false, if_pos, if_neg, ne_eq, not_true_eq_false, not_false_eq_true, mo_isSpeaker_good n2' n6 hi, mo_isRow_good hr, a2]
  · have hR := isRow_row hr
    have hi' : i < hN (playV B ds).1 := by omega
    refine BothR_same h (orF (kindV (playV B ds).1 i L) 0 6 (u32 0)) ?_ ?_
    · unfold ff_ho_kinds ff_ho_kindsBy ff_ho_kindsBy_5
      simp (disch := omega) only [u32_lit, a1, sm_cI_some, if_true, rr_row hr, sm_bind_some]
      rw [sm_N_eq, ho_kindsBy_loop h6.1 hok hi' hR a3 a4 a5 6 0 1000000 _ (by omega) (by omega)]
      rfl
    · unfold ff_mo_kinds ff_mo_kindsBy ff_mo_kindsBy_5
      simp (disch := omega) only [u32_lit, mo_isSpeaker_good n2 n6 hi, mo_isRow_good hr, a2, sm_cI_some, u10, if_false, if_true]
      rw [sm_N_eq, mo_kindsBy_loop h8.2.1.1 hok hi' hr a3 a6 a7 6 0 1000000 _ (by omega) (by omega)]
      rfl
