/-! pure: what a text tells: items, fault -/
def kOf (x : Int32) : Option Nat := if x = u32 118 then some 0 else if x = u32 112 then some 1 else if x = u32 115 then some 2 else if x = u32 110 then some 3 else if x = u32 109 then some 4 else if x = u32 99 then some 5 else none
def dg (f : Nat → Int32) (n q lo hi : Nat) : Option Nat := if q < n then (if u32 (48 + lo) ≤ f q ∧ f q ≤ u32 (48 + hi) then some ((f q).toInt.toNat - 48) else none) else none
abbrev It : Type := Nat × Nat × Nat × Nat
def pit (f : Nat → Int32) (n p : Nat) : Nat ⊕ It := match kOf (f p) with
  | none => .inl p
  | some k => match dg f n (p + 1) 0 9 with
    | none => .inl (p + 1)
    | some a => match dg f n (p + 2) 0 9 with
      | none => .inl (p + 2)
      | some b => if 63 < 10 * a + b then .inl (p + 1) else match dg f n (p + 3) 0 5 with
        | none => .inl (p + 3)
        | some r => match dg f n (p + 4) 1 9 with
          | none => .inl (p + 4)
          | some e => .inr (k, 10 * a + b, r, e)
def prs (f : Nat → Int32) (n : Nat) : Nat → Nat → List It → Option Nat × List It
  | 0, p, it => (if it.length = 0 then some p else none, it)
  | m + 1, p, it => if n ≤ p then (if it.length = 0 then some p else none, it) else if f p = u32 32 then prs f n m (p + 1) it else if it.length = 6 then (some p, it) else match pit f n p with
    | .inl e => (some e, it)
    | .inr x => prs f n m (p + 5) (it ++ [x])
theorem kOf_lt {x : Int32} {k : Nat} (h : kOf x = some k) : k < 6 := by
  unfold kOf at h
  repeat' split at h
  all_goals first | cases h | skip
  all_goals decide
theorem dg_cases (f : Nat → Int32) (n q lo hi : Nat) (hlo : lo ≤ 9) (hhi : hi ≤ 9) : (dg f n q lo hi = none ∧ (q < n → f q < u32 (48 + lo) ∨ u32 (48 + hi) < f q)) ∨ ∃ d, dg f n q lo hi = some d ∧ q < n ∧ f q = u32 (48 + d) ∧ lo ≤ d ∧ d ≤ hi := by
  unfold dg
  by_cases hq : q < n
  · rw [if_pos hq]
    by_cases hr : u32 (48 + lo) ≤ f q ∧ f q ≤ u32 (48 + hi)
    · rw [if_pos hr]
      refine Or.inr ⟨_, rfl, hq, ?_⟩
      obtain ⟨h1, h2⟩ := hr
      rw [Int32.le_iff_toInt_le, u32_toInt (by omega)] at h2
      rw [Int32.le_iff_toInt_le, u32_toInt (by omega)] at h1
      refine ⟨?_, by omega, by omega⟩
      apply Int32.toInt_inj.mp
      rw [u32_toInt (by omega)]
      omega
    · rw [if_neg hr]
      refine Or.inl ⟨rfl, fun _ => ?_⟩
      rw [Int32.le_iff_toInt_le, Int32.le_iff_toInt_le] at hr
      rw [Int32.lt_iff_toInt_lt, Int32.lt_iff_toInt_lt]
      omega
  · rw [if_neg hq]
    exact Or.inl ⟨rfl, fun h => absurd h hq⟩
theorem dg_congr {f g : Nat → Int32} {n q lo hi : Nat} (h : ∀ j, j < n → f j = g j) : dg f n q lo hi = dg g n q lo hi := by
  unfold dg
  by_cases hq : q < n
  · rw [if_pos hq, if_pos hq, h q hq]
  · rw [if_neg hq, if_neg hq]
theorem pit_congr {f g : Nat → Int32} {n p : Nat} (h : ∀ j, j < n → f j = g j) (hp : p < n) : pit f n p = pit g n p := by
  unfold pit
  rw [h p hp, dg_congr (q := p + 1) h, dg_congr (q := p + 2) h, dg_congr (q := p + 3) h, dg_congr (q := p + 4) h]
theorem prs_congr {f g : Nat → Int32} {n : Nat} (h : ∀ j, j < n → f j = g j) : ∀ (m p : Nat) (it : List It), prs f n m p it = prs g n m p it
  | 0, p, it => rfl
  | m + 1, p, it => by
    rw [prs, prs]
    by_cases hp : n ≤ p
    · rw [if_pos hp, if_pos hp]
    · rw [if_neg hp, if_neg hp, h p (by omega), pit_congr h (by omega)]
      simp only [prs_congr h m]
theorem pit_ok {f : Nat → Int32} {n p : Nat} {x : It} (h : pit f n p = .inr x) : ∃ k a b r e, x = (k, 10 * a + b, r, e) ∧ kOf (f p) = some k ∧ k < 6 ∧ p + 4 < n ∧ f (p + 1) = u32 (48 + a) ∧ f (p + 2) = u32 (48 + b) ∧ f (p + 3) = u32 (48 + r) ∧ f (p + 4) = u32 (48 + e) ∧ a ≤ 9 ∧ b ≤ 9 ∧ 10 * a + b ≤ 63 ∧ r ≤ 5 ∧ 1 ≤ e ∧ e ≤ 9 := by
  unfold pit at h
  cases hk : kOf (f p) with
  | none => rw [hk] at h; cases h
  | some k =>
    rw [hk] at h
    rcases dg_cases f n (p + 1) 0 9 (by decide) (by decide) with ⟨h1, -⟩ | ⟨a, h1, h2, h3, -, h4⟩
    · rw [h1] at h; cases h
    rcases dg_cases f n (p + 2) 0 9 (by decide) (by decide) with ⟨g1, -⟩ | ⟨b, g1, g2, g3, -, g4⟩
    · rw [h1, g1] at h; cases h
    rcases dg_cases f n (p + 3) 0 5 (by decide) (by decide) with ⟨i1, -⟩ | ⟨r, i1, i2, i3, -, i4⟩
    · rw [h1, g1, i1] at h
      dsimp only at h
      split at h <;> cases h
    rcases dg_cases f n (p + 4) 1 9 (by decide) (by decide) with ⟨j1, -⟩ | ⟨e, j1, j2, j3, j5, j4⟩
    · rw [h1, g1, i1, j1] at h
      dsimp only at h
      split at h <;> cases h
    rw [h1, g1, i1, j1] at h
    dsimp only at h
    split at h
    · cases h
    · cases h
      exact ⟨k, a, b, r, e, rfl, rfl, kOf_lt hk, by omega, h3, g3, i3, j3, h4, g4, by omega, i4, j5, j4⟩
theorem prs_fuel {f : Nat → Int32} {n : Nat} : ∀ (m p : Nat) (it : List It), n ≤ p + m → prs f n m p it = prs f n (n - p) p it
  | 0, p, it, h => by
    rw [show n - p = 0 by omega]
  | m + 1, p, it, h => by
    by_cases hp : n ≤ p
    · rw [show n - p = 0 by omega, prs, prs, if_pos hp]
    · obtain ⟨q, hq⟩ : ∃ q, n - p = q + 1 := ⟨n - p - 1, by omega⟩
      rw [hq, prs, prs, if_neg hp, if_neg hp, prs_fuel m (p + 1) it (by omega), prs_fuel q (p + 1) it (by omega)]
      cases hx : pit f n p with
      | inl e => rfl
      | inr x =>
        dsimp only
        rw [prs_fuel m (p + 5) _ (by omega), prs_fuel q (p + 5) _ (by omega)]
/-- the parse from place p on -/
def psr (f : Nat → Int32) (n p : Nat) (it : List It) : Option Nat × List It := prs f n (n - p) p it
theorem psr_end {f : Nat → Int32} {n p : Nat} {it : List It} (h : n ≤ p) : psr f n p it = (if it.length = 0 then some p else none, it) := by
  unfold psr
  rw [show n - p = 0 by omega, prs]
theorem psr_blank {f : Nat → Int32} {n p : Nat} {it : List It} (h : p < n) (hb : f p = u32 32) : psr f n p it = psr f n (p + 1) it := by
  unfold psr
  obtain ⟨q, hq⟩ : ∃ q, n - p = q + 1 := ⟨n - p - 1, by omega⟩
  rw [hq, prs, if_neg (by omega), if_pos hb, prs_fuel q (p + 1) it (by omega)]
theorem psr_seven {f : Nat → Int32} {n p : Nat} {it : List It} (h : p < n) (hb : ¬ f p = u32 32) (h6 : it.length = 6) : psr f n p it = (some p, it) := by
  unfold psr
  obtain ⟨q, hq⟩ : ∃ q, n - p = q + 1 := ⟨n - p - 1, by omega⟩
  rw [hq, prs, if_neg (by omega), if_neg hb, if_pos h6]
theorem psr_bad {f : Nat → Int32} {n p e : Nat} {it : List It} (h : p < n) (hb : ¬ f p = u32 32) (h6 : ¬ it.length = 6) (hx : pit f n p = .inl e) : psr f n p it = (some e, it) := by
  unfold psr
  obtain ⟨q, hq⟩ : ∃ q, n - p = q + 1 := ⟨n - p - 1, by omega⟩
  rw [hq, prs, if_neg (by omega), if_neg hb, if_neg h6, hx]
theorem psr_item {f : Nat → Int32} {n p : Nat} {x : It} {it : List It} (h : p < n) (hb : ¬ f p = u32 32) (h6 : ¬ it.length = 6) (hx : pit f n p = .inr x) : psr f n p it = psr f n (p + 5) (it ++ [x]) := by
  unfold psr
  obtain ⟨q, hq⟩ : ∃ q, n - p = q + 1 := ⟨n - p - 1, by omega⟩
  rw [hq, prs, if_neg (by omega), if_neg hb, if_neg h6, hx]
  exact prs_fuel q (p + 5) _ (by omega)
theorem psr_congr {f g : Nat → Int32} {n p : Nat} {it : List It} (h : ∀ j, j < n → f j = g j) : psr f n p it = psr g n p it := prs_congr h _ _ _
def fAns : Option Nat → Int32
  | none => -u32 9
  | some e => u32 e
theorem ho_kindOf {x : Int32} {w : sm_Mem} : ff_ho_kindOf x w = some (.int (fAns (kOf x)), w) := by
  have st : ∀ (F i : Nat), i < 6 → ff_ho_kindOf_2_f (F + 1) x (u32 i) w = if sm_kl i = x then some (.int (u32 i), w) else ff_ho_kindOf_2_f F x (u32 (i + 1)) w := by
    intro F i hi
    rw [ff_ho_kindOf_2_f]
    unfold ff_ho_kindOf_2_b
    simp (disch := omega) only [u32_lit, sm_let_eq, sm_bind_some, sm_cI_some, sm_cV_some, sm_cL_some, sm_rd_u, sm_wr_u, u32_add, u32_mul, u32_sub, u32_le, u32_lt, u32_eq, u32_eq_neg, u32_neg_eq, u32_neg_neg, u32_le_neg, u32_neg_lt, u32_lt_neg, u32_neg_le, u10, u01, u3n0, u1n0, u4n0, n9_lt, n1_lt, n9_neg, n1_neg, if_true, if_false, if_pos, if_neg, ne_eq, not_true_eq_false, not_false_eq_true, sm_kd_u hi]
  unfold ff_ho_kindOf ff_ho_kindOf_2
  rw [sm_N_eq, u32_lit, st 999999 0 (by decide), st 999998 1 (by decide), st 999997 2 (by decide), st 999996 3 (by decide), st 999995 4 (by decide), st 999994 5 (by decide)]
  unfold kOf
  have e6 : ff_ho_kindOf_2_f 999994 x (u32 6) w = some (.int (-u32 9), w) := by
    rw [ff_ho_kindOf_2_f]
    unfold ff_ho_kindOf_2_b
    simp (disch := omega) only [u32_lit, sm_let_eq, sm_bind_some, sm_cI_some, sm_cV_some, sm_cL_some, sm_rd_u, sm_wr_u, u32_add, u32_mul, u32_sub, u32_le, u32_lt, u32_eq, u32_eq_neg, u32_neg_eq, u32_neg_neg, u32_le_neg, u32_neg_lt, u32_lt_neg, u32_neg_le, u10, u01, u3n0, u1n0, u4n0, n9_lt, n1_lt, n9_neg, n1_neg, if_true, if_false, if_pos, if_neg, ne_eq, not_true_eq_false, not_false_eq_true]
  simp only [sm_kl, u32_lit, eq_comm (b := x), e6]
  repeat' split
  all_goals rfl
theorem u32_gt_not {x y : Int32} (h : x < y) : ¬ y ≤ x := by
  rw [Int32.lt_iff_toInt_lt] at h
  rw [Int32.le_iff_toInt_le]
  omega
theorem u32_le_not {x y : Int32} (h : x ≤ y) : ¬ y < x := by
  rw [Int32.le_iff_toInt_le] at h
  rw [Int32.lt_iff_toInt_lt]
  omega
def itLo (k : Nat) : Nat := if k = 4 then 1 else 0
def itHi (k : Nat) : Nat := if k = 3 then 5 else 9
theorem ho_item_step {c n p k num F : Nat} {w : sm_Mem} (hR : isRow c 60) (hn : n ≤ 60) (hw : w.1 c 1 = u32 n) (hk : 1 ≤ k) (hk4 : k ≤ 4) (hp : p + k ≤ n) (hnum : num < 100000) : ff_ho_faultOfItem_20_f (F + 1) c (u32 p) (u32 num) (u32 k) w = match dg (w.1 (c + 1)) n (p + k) (itLo k) (itHi k) with
    | none => some (.int (u32 (p + k)), w)
    | some d => if k = 2 ∧ 63 < 10 * num + d then some (.int (u32 (p + 1)), w) else ff_ho_faultOfItem_20_f F c (u32 p) (u32 (10 * num + d)) (u32 (k + 1)) w := by
  rw [ff_ho_faultOfItem_20_f]
  unfold ff_ho_faultOfItem_20_b
  have hlo : itLo k ≤ 9 := by unfold itLo; split <;> decide
  have hhi : itHi k ≤ 9 := by unfold itHi; split <;> decide
  have e1 : ∀ (a1 a2 a3 a4 a5 b0 : Int32), (if u32 k = u32 4 then ff_ho_faultOfItem_65 (ff_ho_faultOfItem_20_f F) c a1 a2 (u32 k) a4 a5 (u32 49) w else ff_ho_faultOfItem_65 (ff_ho_faultOfItem_20_f F) c a1 a2 (u32 k) a4 a5 (u32 48) w) = ff_ho_faultOfItem_79 (ff_ho_faultOfItem_20_f F) c a1 a2 (u32 k) a4 a5 (u32 (48 + itLo k)) (u32 (48 + itHi k)) w := by
    intro a1 a2 a3 a4 a5 b0
    rcases (show k = 1 ∨ k = 2 ∨ k = 3 ∨ k = 4 by omega) with rfl | rfl | rfl | rfl <;> rfl
  by_cases hq : p + k < n
  · simp (disch := omega) only [u32_lit, sm_bind_some, hR.gI, hw, hR.fk, u32_add, u32_le, u32_lt, if_neg, if_pos, hR.rds (show p + k < 60 by omega)]
    rw [e1 _ _ 0 _ _ 0]
    unfold ff_ho_faultOfItem_79
    rcases dg_cases (w.1 (c + 1)) n (p + k) (itLo k) (itHi k) hlo hhi with ⟨h1, h2⟩ | ⟨d, h1, h2, h3, h4, h5⟩
    · rw [h1]
      rcases h2 hq with h2 | h2
      · simp only [if_pos h2]
      · by_cases h3 : w.1 (c + 1) (p + k) < u32 (48 + itLo k)
        · simp only [if_pos h3]
        · simp only [if_neg h3, if_neg (u32_gt_not h2)]
    · rw [h1, h3]
      simp (disch := omega) only [u32_lit, sm_let_eq, sm_bind_some, sm_cI_some, sm_cV_some, sm_cL_some, sm_rd_u, sm_wr_u, u32_add, u32_mul, u32_sub, u32_le, u32_lt, u32_eq, u32_eq_neg, u32_neg_eq, u32_neg_neg, u32_le_neg, u32_neg_lt, u32_lt_neg, u32_neg_le, u10, u01, u3n0, u1n0, u4n0, n9_lt, n1_lt, n9_neg, n1_neg, if_true, if_false, if_pos, if_neg, ne_eq, not_true_eq_false, not_false_eq_true]
      by_cases hk2 : k = 2
      · subst hk2
        by_cases h63 : 63 < 10 * num + d
        · simp (disch := omega) only [u32_lit, sm_let_eq, sm_bind_some, sm_cI_some, sm_cV_some, sm_cL_some, sm_rd_u, sm_wr_u, u32_add, u32_mul, u32_sub, u32_le, u32_lt, u32_eq, u32_eq_neg, u32_neg_eq, u32_neg_neg, u32_le_neg, u32_neg_lt, u32_lt_neg, u32_neg_le, u10, u01, u3n0, u1n0, u4n0, n9_lt, n1_lt, n9_neg, n1_neg, if_true, if_false, if_pos, if_neg, ne_eq, not_true_eq_false, not_false_eq_true, true_and]
        · simp (disch := omega) only [u32_lit, sm_let_eq, sm_bind_some, sm_cI_some, sm_cV_some, sm_cL_some, sm_rd_u, sm_wr_u, u32_add, u32_mul, u32_sub, u32_le, u32_lt, u32_eq, u32_eq_neg, u32_neg_eq, u32_neg_neg, u32_le_neg, u32_neg_lt, u32_lt_neg, u32_neg_le, u10, u01, u3n0, u1n0, u4n0, n9_lt, n1_lt, n9_neg, n1_neg, if_true, if_false, if_pos, if_neg, ne_eq, not_true_eq_false, not_false_eq_true]
          rw [show 10 * num + (48 + d) - 48 = 10 * num + d by omega]
      · simp (disch := omega) only [u32_lit, sm_let_eq, sm_bind_some, sm_cI_some, sm_cV_some, sm_cL_some, sm_rd_u, sm_wr_u, u32_add, u32_mul, u32_sub, u32_le, u32_lt, u32_eq, u32_eq_neg, u32_neg_eq, u32_neg_neg, u32_le_neg, u32_neg_lt, u32_lt_neg, u32_neg_le, u10, u01, u3n0, u1n0, u4n0, n9_lt, n1_lt, n9_neg, n1_neg, if_true, if_false, if_pos, if_neg, ne_eq, not_true_eq_false, not_false_eq_true]
        rw [show 10 * num + (48 + d) - 48 = 10 * num + d by omega]
  · have e : dg (w.1 (c + 1)) n (p + k) (itLo k) (itHi k) = none := if_neg hq
    rw [e]
    simp (disch := omega) only [u32_lit, sm_let_eq, sm_bind_some, sm_cI_some, sm_cV_some, sm_cL_some, sm_rd_u, sm_wr_u, u32_add, u32_mul, u32_sub, u32_le, u32_lt, u32_eq, u32_eq_neg, u32_neg_eq, u32_neg_neg, u32_le_neg, u32_neg_lt, u32_lt_neg, u32_neg_le, u10, u01, u3n0, u1n0, u4n0, n9_lt, n1_lt, n9_neg, n1_neg, if_true, if_false, if_pos, if_neg, ne_eq, not_true_eq_false, not_false_eq_true, hR.gI, hw]
    rw [show p + k = n by omega]
theorem ho_item_last {c p num F : Nat} {w : sm_Mem} : ff_ho_faultOfItem_20_f (F + 1) c (u32 p) (u32 num) (u32 5) w = some (.int (-u32 9), w) := by
  rw [ff_ho_faultOfItem_20_f]
  unfold ff_ho_faultOfItem_20_b
  simp (disch := omega) only [u32_lit, sm_let_eq, sm_bind_some, sm_cI_some, sm_cV_some, sm_cL_some, sm_rd_u, sm_wr_u, u32_add, u32_mul, u32_sub, u32_le, u32_lt, u32_eq, u32_eq_neg, u32_neg_eq, u32_neg_neg, u32_le_neg, u32_neg_lt, u32_lt_neg, u32_neg_le, u10, u01, u3n0, u1n0, u4n0, n9_lt, n1_lt, n9_neg, n1_neg, if_true, if_false, if_pos, if_neg, ne_eq, not_true_eq_false, not_false_eq_true]
def pAns : Nat ⊕ It → Int32
  | .inl e => u32 e
  | .inr _ => -u32 9
theorem ho_item {c n p : Nat} {w : sm_Mem} (hR : isRow c 60) (hn : n ≤ 60) (hw : w.1 c 1 = u32 n) (hp : p < n) : ff_ho_faultOfItem c (u32 p) w = some (.int (pAns (pit (w.1 (c + 1)) n p)), w) := by
  unfold ff_ho_faultOfItem ff_ho_faultOfItem_20
  simp (disch := omega) only [u32_lit, sm_bind_some, hR.fk, hR.rds (show p < 60 by omega), ho_kindOf, sm_cI_some]
  unfold pit
  cases hk : kOf (w.1 (c + 1) p) with
  | none => rfl
  | some k =>
    have := kOf_lt hk
    simp (disch := omega) only [fAns, u32_eq_neg, if_false]
    rw [sm_N_eq, ho_item_step (F := 999999) hR hn hw (by decide) (by decide) (by omega) (by decide)]
    show _ = some (Value.int (pAns (match dg (w.1 (c + 1)) n (p + 1) 0 9 with | none => _ | some a => _)), w)
    rw [show itLo 1 = 0 from rfl, show itHi 1 = 9 from rfl]
    rcases dg_cases (w.1 (c + 1)) n (p + 1) 0 9 (by decide) (by decide) with ⟨h1, -⟩ | ⟨a, h1, h2, h3, -, h4⟩
    · rw [h1]; rfl
    rw [h1]
    dsimp only
    rw [if_neg (by omega), ho_item_step (F := 999998) hR hn hw (by decide) (by decide) (by omega) (by omega)]
    rw [show itLo (1 + 1) = 0 from rfl, show itHi (1 + 1) = 9 from rfl]
    rcases dg_cases (w.1 (c + 1)) n (p + 2) 0 9 (by decide) (by decide) with ⟨g1, -⟩ | ⟨b, g1, g2, g3, -, g4⟩
    · rw [g1]; rfl
    rw [g1]
    dsimp only
    by_cases h63 : 63 < 10 * a + b
    · rw [if_pos (by omega), if_pos h63]; rfl
    rw [if_neg (by omega), if_neg h63, ho_item_step (F := 999997) hR hn hw (by decide) (by decide) (by omega) (by omega)]
    rw [show itLo (1 + 1 + 1) = 0 from rfl, show itHi (1 + 1 + 1) = 5 from rfl]
    rcases dg_cases (w.1 (c + 1)) n (p + 3) 0 5 (by decide) (by decide) with ⟨i1, -⟩ | ⟨r, i1, i2, i3, -, i4⟩
    · rw [i1]; rfl
    rw [i1]
    dsimp only
    rw [if_neg (by omega), ho_item_step (F := 999996) hR hn hw (by decide) (by decide) (by omega) (by omega)]
    rw [show itLo (1 + 1 + 1 + 1) = 1 from rfl, show itHi (1 + 1 + 1 + 1) = 9 from rfl]
    rcases dg_cases (w.1 (c + 1)) n (p + 4) 1 9 (by decide) (by decide) with ⟨j1, -⟩ | ⟨e, j1, j2, j3, j5, j4⟩
    · rw [j1]; rfl
    rw [j1]
    dsimp only
    rw [if_neg (by omega)]
    exact ho_item_last (F := 999995)
theorem ho_fault_loop {c n : Nat} {w : sm_Mem} (hR : isRow c 60) (hn : n ≤ 60) (hw : w.1 c 1 = u32 n) : ∀ (m p F : Nat) (it : List It), p ≤ n → n ≤ p + m → m < F → it.length ≤ 6 → ff_ho_faultOf_4_f F c (u32 it.length) (u32 p) w = some (.int (fAns (psr (w.1 (c + 1)) n p it).1), w) := by
  intro m
  induction m using Nat.strongRecOn with
  | ind m ih =>
    intro p F it hpn hm hF h6
    obtain ⟨F, rfl⟩ : ∃ G, F = G + 1 := ⟨F - 1, by omega⟩
    rw [ff_ho_faultOf_4_f]
    unfold ff_ho_faultOf_4_b
    by_cases hp : n ≤ p
    · rw [psr_end hp]
      by_cases h0 : it.length = 0
      · simp (disch := omega) only [u32_lit, sm_let_eq, sm_bind_some, sm_cI_some, sm_cV_some, sm_cL_some, sm_rd_u, sm_wr_u, u32_add, u32_mul, u32_sub, u32_le, u32_lt, u32_eq, u32_eq_neg, u32_neg_eq, u32_neg_neg, u32_le_neg, u32_neg_lt, u32_lt_neg, u32_neg_le, u10, u01, u3n0, u1n0, u4n0, n9_lt, n1_lt, n9_neg, n1_neg, if_true, if_false, if_pos, if_neg, ne_eq, not_true_eq_false, not_false_eq_true, hR.gI, hw, h0, fAns]
        rw [show n = p by omega]
      · simp (disch := omega) only [u32_lit, sm_let_eq, sm_bind_some, sm_cI_some, sm_cV_some, sm_cL_some, sm_rd_u, sm_wr_u, u32_add, u32_mul, u32_sub, u32_le, u32_lt, u32_eq, u32_eq_neg, u32_neg_eq, u32_neg_neg, u32_le_neg, u32_neg_lt, u32_lt_neg, u32_neg_le, u10, u01, u3n0, u1n0, u4n0, n9_lt, n1_lt, n9_neg, n1_neg, if_true, if_false, if_pos, if_neg, ne_eq, not_true_eq_false, not_false_eq_true, hR.gI, hw, fAns]
    · simp (disch := omega) only [u32_lit, sm_bind_some, hR.gI, hw, hR.fk, u32_le, hR.rds (show p < 60 by omega), if_neg hp]
      by_cases hb : w.1 (c + 1) p = u32 32
      · rw [if_pos hb, psr_blank (by omega) hb, u32_add, ih (m - 1) (by omega) (p + 1) F it (by omega) (by omega) (by omega) h6]
      · rw [if_neg hb]
        by_cases hs : it.length = 6
        · rw [psr_seven (by omega) hb hs]
          simp (disch := omega) only [u32_lit, sm_let_eq, sm_bind_some, sm_cI_some, sm_cV_some, sm_cL_some, sm_rd_u, sm_wr_u, u32_add, u32_mul, u32_sub, u32_le, u32_lt, u32_eq, u32_eq_neg, u32_neg_eq, u32_neg_neg, u32_le_neg, u32_neg_lt, u32_lt_neg, u32_neg_le, u10, u01, u3n0, u1n0, u4n0, n9_lt, n1_lt, n9_neg, n1_neg, if_true, if_false, if_pos, if_neg, ne_eq, not_true_eq_false, not_false_eq_true, hs, fAns]
        · simp (disch := omega) only [u32_eq, if_neg hs]
          rw [ho_item hR hn hw (by omega)]
          cases hx : pit (w.1 (c + 1)) n p with
          | inl e =>
            rw [psr_bad (by omega) hb hs hx]
            have he : e ≤ 100 := by
              unfold pit at hx
              repeat' split at hx
              all_goals first | (cases hx; done) | (cases hx; omega)
            simp (disch := omega) only [u32_lit, sm_let_eq, sm_bind_some, sm_cI_some, sm_cV_some, sm_cL_some, sm_rd_u, sm_wr_u, u32_add, u32_mul, u32_sub, u32_le, u32_lt, u32_eq, u32_eq_neg, u32_neg_eq, u32_neg_neg, u32_le_neg, u32_neg_lt, u32_lt_neg, u32_neg_le, u10, u01, u3n0, u1n0, u4n0, n9_lt, n1_lt, n9_neg, n1_neg, if_true, if_false, if_pos, if_neg, ne_eq, not_true_eq_false, not_false_eq_true, pAns, fAns]
          | inr x =>
            obtain ⟨k, a, b, r, e, h1⟩ := pit_ok hx
            rw [psr_item (by omega) hb hs hx]
            simp (disch := omega) only [u32_lit, sm_let_eq, sm_bind_some, sm_cI_some, sm_cV_some, sm_cL_some, sm_rd_u, sm_wr_u, u32_add, u32_mul, u32_sub, u32_le, u32_lt, u32_eq, u32_eq_neg, u32_neg_eq, u32_neg_neg, u32_le_neg, u32_neg_lt, u32_lt_neg, u32_neg_le, u10, u01, u3n0, u1n0, u4n0, n9_lt, n1_lt, n9_neg, n1_neg, if_true, if_false, if_pos, if_neg, ne_eq, not_true_eq_false, not_false_eq_true, pAns, fAns]
            have := ih (m - 5) (by omega) (p + 5) F (it ++ [x]) (by omega) (by omega) (by omega) (by rw [List.length_append]; simp; omega)
            rw [List.length_append] at this
            exact this
theorem ho_faultOf {c n : Nat} {w : sm_Mem} (hR : isRow c 60) (hn : n ≤ 60) (hw : w.1 c 1 = u32 n) : ff_ho_faultOf c w = some (.int (fAns (psr (w.1 (c + 1)) n 0 []).1), w) := by
  unfold ff_ho_faultOf ff_ho_faultOf_4
  rw [sm_N_eq]
  exact ho_fault_loop hR hn hw n 0 1000000 [] (by omega) (by omega) (by omega) (by simp)
