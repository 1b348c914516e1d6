/-! pure: test -/
def setV (p : Nat → Bool) : Nat := (p 0).toNat + 2 * (p 1).toNat + 4 * (p 2).toNat + 8 * (p 3).toNat + 16 * (p 4).toNat + 32 * (p 5).toNat
theorem setV_spec (p : Nat → Bool) : orF p 0 6 (u32 0) = u32 (setV p) ∧ setV p < 64 ∧ ∀ k, k < 6 → (setV p).testBit k = p k := by
  have key : ∀ b0 b1 b2 b3 b4 b5 : Bool, (decide (orF (fun k => match k with | 0 => b0 | 1 => b1 | 2 => b2 | 3 => b3 | 4 => b4 | _ => b5) 0 6 (u32 0) = u32 (b0.toNat + 2 * b1.toNat + 4 * b2.toNat + 8 * b3.toNat + 16 * b4.toNat + 32 * b5.toNat)) && decide (b0.toNat + 2 * b1.toNat + 4 * b2.toNat + 8 * b3.toNat + 16 * b4.toNat + 32 * b5.toNat < 64) && ((b0.toNat + 2 * b1.toNat + 4 * b2.toNat + 8 * b3.toNat + 16 * b4.toNat + 32 * b5.toNat).testBit 0 == b0) && ((b0.toNat + 2 * b1.toNat + 4 * b2.toNat + 8 * b3.toNat + 16 * b4.toNat + 32 * b5.toNat).testBit 1 == b1) && ((b0.toNat + 2 * b1.toNat + 4 * b2.toNat + 8 * b3.toNat + 16 * b4.toNat + 32 * b5.toNat).testBit 2 == b2) && ((b0.toNat + 2 * b1.toNat + 4 * b2.toNat + 8 * b3.toNat + 16 * b4.toNat + 32 * b5.toNat).testBit 3 == b3) && ((b0.toNat + 2 * b1.toNat + 4 * b2.toNat + 8 * b3.toNat + 16 * b4.toNat + 32 * b5.toNat).testBit 4 == b4) && ((b0.toNat + 2 * b1.toNat + 4 * b2.toNat + 8 * b3.toNat + 16 * b4.toNat + 32 * b5.toNat).testBit 5 == b5)) = true := by decide +kernel
  have h := key (p 0) (p 1) (p 2) (p 3) (p 4) (p 5)
  simp only [Bool.and_eq_true, decide_eq_true_eq, beq_iff_eq] at h
  obtain ⟨⟨⟨⟨⟨⟨⟨h1, h2⟩, h3⟩, h4⟩, h5⟩, h6⟩, h7⟩, h8⟩ := h
  refine ⟨?_, h2, fun k hk => ?_⟩
  · refine Eq.trans (orF_congr 6 0 (u32 0) (fun j _ h2 => ?_)) h1
    rcases (show j = 0 ∨ j = 1 ∨ j = 2 ∨ j = 3 ∨ j = 4 ∨ j = 5 by omega) with rfl | rfl | rfl | rfl | rfl | rfl <;> rfl
  · rcases (show k = 0 ∨ k = 1 ∨ k = 2 ∨ k = 3 ∨ k = 4 ∨ k = 5 by omega) with rfl | rfl | rfl | rfl | rfl | rfl
    · exact h3
    · exact h4
    · exact h5
    · exact h6
    · exact h7
    · exact h8
def cnt6 (p : Nat → Bool) : Nat := (p 0).toNat + (p 1).toNat + (p 2).toNat + (p 3).toNat + (p 4).toNat + (p 5).toNat
theorem cnt6_le (p : Nat → Bool) : cnt6 p ≤ 6 := by
  have h : ∀ b : Bool, b.toNat ≤ 1 := fun b => by cases b <;> decide
  have h0 := h (p 0)
  have h1 := h (p 1)
  have h2 := h (p 2)
  have h3 := h (p 3)
  have h4 := h (p 4)
  have h5 := h (p 5)
  unfold cnt6
  omega
def partV (s a : Nat → Bool) : Nat := if cnt6 (fun k => s k && a k) < cnt6 (fun k => s k && !a k) then cnt6 (fun k => s k && !a k) else cnt6 (fun k => s k && a k)
theorem partV_le (s a : Nat → Bool) : partV s a ≤ 6 := by
  unfold partV
  split
  · exact cnt6_le _
  · exact cnt6_le _
theorem u32_and {a b : Nat} (ha : a < 64) (hb : b < 64) : u32 a &&& u32 b = u32 (a &&& b) ∧ a &&& b < 64 := by
  have key : ∀ a, a < 64 → ∀ b, b < 64 → u32 a &&& u32 b = u32 (a &&& b) ∧ a &&& b < 64 := by decide +kernel
  exact key a ha b hb
theorem u32_andn {a b : Nat} (ha : a < 64) (hb : b < 64) : u32 a &&& (u32 b ^^^ -u32 1) = u32 (a &&& (63 - b)) ∧ a &&& (63 - b) < 64 ∧ popV (a &&& (63 - b)) = cnt6 (fun k => a.testBit k && !b.testBit k) := by
  have key : ∀ a, a < 64 → ∀ b, b < 64 → u32 a &&& (u32 b ^^^ -u32 1) = u32 (a &&& (63 - b)) ∧ a &&& (63 - b) < 64 ∧ popV (a &&& (63 - b)) = cnt6 (fun k => a.testBit k && !b.testBit k) := by decide +kernel
  exact key a ha b hb
theorem popV_and (a b : Nat) : popV (a &&& b) = cnt6 (fun k => a.testBit k && b.testBit k) := by
  unfold popV cnt6
  simp only [Nat.testBit_and]
theorem cnt6_congr {p q : Nat → Bool} (h : ∀ k, k < 6 → p k = q k) : cnt6 p = cnt6 q := by
  unfold cnt6
  rw [h 0 (by decide), h 1 (by decide), h 2 (by decide), h 3 (by decide), h 4 (by decide), h 5 (by decide)]
theorem ho_greaterPart {H : HV} {i x : Nat} {o : Option Nat} {s : Nat → Bool} {w : sm_Mem} (h : CH w H) (hok : HOk H) (hi : i < hN H) (hx : x < 6) (ho : ∀ l, o = some l → l < 6) : ff_ho_greaterPart (u32 i) (u32 (setV s)) (oAns o) (u32 x) w = some (.int (u32 (partV s (fun k => ableV k (hW H i) (hH H) o x))), w) := by
  obtain ⟨-, hs6, hsb⟩ := setV_spec s
  have st : ∀ (F k a b : Nat), k < 6 → ff_ho_greaterPart_9_f (F + 1) (u32 i) (u32 (setV s)) (oAns o) (u32 x) (u32 a) (u32 b) (u32 k) w = ff_ho_greaterPart_9_f F (u32 i) (u32 (setV s)) (oAns o) (u32 x) (u32 (a + (s k && ableV k (hW H i) (hH H) o x).toNat)) (u32 (b + (s k && !ableV k (hW H i) (hH H) o x).toNat)) (u32 (k + 1)) w := by
    intro F k a b hk
    rw [ff_ho_greaterPart_9_f]
    unfold ff_ho_greaterPart_9_b
    simp (disch := omega) only [u32_lit, u32_le, if_neg, u32_bit hs6 hk, hsb k hk, u32_bool_eq0, ho_isAble h hok hi hk hx ho, sm_cI_some, u32_add]
    cases s k <;> cases ableV k (hW H i) (hH H) o x <;> rfl
  have e6 : ∀ (F a b : Nat), a ≤ 6 → b ≤ 6 → ff_ho_greaterPart_9_f (F + 1) (u32 i) (u32 (setV s)) (oAns o) (u32 x) (u32 a) (u32 b) (u32 6) w = some (.int (u32 (if a < b then b else a)), w) := by
    intro F a b ha hb
    rw [ff_ho_greaterPart_9_f]
    unfold ff_ho_greaterPart_9_b
    simp (disch := omega) only [u32_lit, u32_le, if_pos, u32_lt]
    by_cases hab : a < b
    · rw [if_pos hab, if_pos hab]
    · rw [if_neg hab, if_neg hab]
  unfold ff_ho_greaterPart ff_ho_greaterPart_9
  rw [sm_N_eq, u32_lit, st 999999 0 _ _ (by decide), st 999998 1 _ _ (by decide), st 999997 2 _ _ (by decide), st 999996 3 _ _ (by decide), st 999995 4 _ _ (by decide), st 999994 5 _ _ (by decide)]
  have c1 := cnt6_le (fun k => s k && ableV k (hW H i) (hH H) o x)
  have c2 := cnt6_le (fun k => s k && !ableV k (hW H i) (hH H) o x)
  unfold cnt6 at c1 c2
  rw [e6 999993 _ _ (by rw [Nat.zero_add]; exact c1) (by rw [Nat.zero_add]; exact c2), Nat.zero_add, Nat.zero_add]
  rfl
def tstep (P : Nat → Nat) (num : Nat) (s : Int32 × Nat) : Int32 × Nat := if P num < s.2 then (u32 (10 * (num / 6) + num % 6), P num) else s
def tF (P : Nat → Nat) : Nat → Nat → Int32 × Nat → Int32 × Nat
  | _, 0, s => s
  | i, m + 1, s => tF P (i + 1) m (tstep P i s)
theorem tF_add {P : Nat → Nat} : ∀ (m k i : Nat) (s : Int32 × Nat), tF P i (m + k) s = tF P (i + m) k (tF P i m s)
  | 0, k, i, s => by rw [Nat.zero_add]; rfl
  | m + 1, k, i, s => by
    rw [show m + 1 + k = (m + k) + 1 by omega, tF, tF_add m k (i + 1) _, tF, show i + 1 + m = i + (m + 1) by omega]
theorem tF_le {P : Nat → Nat} (hP : ∀ n, P n ≤ 6) : ∀ (m i : Nat) (s : Int32 × Nat), s.2 ≤ 7 → (tF P i m s).2 ≤ 7
  | 0, _, _, h => h
  | m + 1, i, s, h => by
    rw [tF]
    refine tF_le hP m (i + 1) _ ?_
    unfold tstep
    split
    · have := hP i
      show P i ≤ 7
      omega
    · exact h
theorem tF_first {P : Nat → Nat} (hP : ∀ n, P n ≤ 6) (m i : Nat) (b b1 : Int32) : tF P i (m + 1) (b, 7) = tF P i (m + 1) (b1, 7) := by
  rw [tF, tF]
  unfold tstep
  have := hP i
  rw [if_pos (by show P i < 7; omega), if_pos (by show P i < 7; omega)]
/-- by number: the word said last, and the word -/
def lastN (num : Nat) : Option Nat := if num / 6 = 0 then none else some (num / 6 - 1)
def partN (H : HV) (i : Nat) (s : Nat → Bool) (num : Nat) : Nat := partV s (fun k => ableV k (hW H i) (hH H) (lastN num) (num % 6))
theorem ho_test_in {H : HV} {i : Nat} {s : Nat → Bool} {w : sm_Mem} (h : CH w H) (hok : HOk H) (hi : i < hN H) (self44 : Int32 → Int32 → Int32 → Int32 → Int32 → sm_Mem → sm_R) {a7 : Nat} (h7 : a7 < 7) : ∀ (m x F : Nat) (b : Int32) (l : Nat), x + m = 6 → m < F → l ≤ 7 → ff_ho_test_54_f self44 F (u32 i) (u32 (setV s)) b (u32 l) (u32 a7) (u32 x) w = self44 (u32 i) (u32 (setV s)) (tF (partN H i s) (6 * a7 + x) m (b, l)).1 (u32 (tF (partN H i s) (6 * a7 + x) m (b, l)).2) (u32 (a7 + 1)) w := by
  intro m
  induction m with
  | zero =>
    intro x F b l hm hF hl
    obtain ⟨F, rfl⟩ : ∃ G, F = G + 1 := ⟨F - 1, by omega⟩
    rw [ff_ho_test_54_f]
    unfold ff_ho_test_54_b
    simp (disch := omega) only [u32_lit, u32_le, if_pos, u32_add, tF]
  | succ m ih =>
    intro x F b l hm hF hl
    obtain ⟨F, rfl⟩ : ∃ G, F = G + 1 := ⟨F - 1, by omega⟩
    have hx : x < 6 := by omega
    have hlast : ∀ l, lastN (6 * a7 + x) = some l → l < 6 := by
      intro l hl
      unfold lastN at hl
      split at hl
      · cases hl
      · cases hl
        omega
    have e1 : (6 * a7 + x) / 6 = a7 := by omega
    have e2 : (6 * a7 + x) % 6 = x := by omega
    have hg : ff_ho_greaterPart (u32 i) (u32 (setV s)) (oAns (lastN (6 * a7 + x))) (u32 x) w = some (.int (u32 (partN H i s (6 * a7 + x))), w) := by
      unfold partN
      rw [e2]
      exact ho_greaterPart h hok hi hx hlast
    have hp := partV_le s (fun k => ableV k (hW H i) (hH H) (lastN (6 * a7 + x)) ((6 * a7 + x) % 6))
    have hp : partN H i s (6 * a7 + x) ≤ 6 := hp
    have mid : ∀ o, oAns (lastN (6 * a7 + x)) = o → ff_ho_test_79 self44 (ff_ho_test_54_f self44 F) (u32 i) (u32 (setV s)) b (u32 l) (u32 a7) (u32 x) (u32 i) (u32 (setV s)) o w = self44 (u32 i) (u32 (setV s)) (tF (partN H i s) (6 * a7 + x) (m + 1) (b, l)).1 (u32 (tF (partN H i s) (6 * a7 + x) (m + 1) (b, l)).2) (u32 (a7 + 1)) w := by
      intro o ho
      subst ho
      unfold ff_ho_test_79
      rw [hg]
      simp (disch := omega) only [u32_lit, sm_cI_some, u32_le, u32_add, u32_mul, tF]
      unfold tstep
      by_cases hlt : partN H i s (6 * a7 + x) < l
      · rw [if_neg (by omega), if_pos hlt, e1, e2]
        exact ih (x + 1) F _ _ (by omega) (by omega) (by omega)
      · rw [if_pos (by omega), if_neg hlt]
        exact ih (x + 1) F _ _ (by omega) (by omega) hl
    rw [ff_ho_test_54_f]
    unfold ff_ho_test_54_b
    simp (disch := omega) only [u32_lit, u32_le, if_neg, u32_eq]
    by_cases h0 : a7 = 0
    · rw [if_pos h0]
      refine mid _ ?_
      unfold lastN
      rw [e1, if_pos h0]
      rfl
    · rw [if_neg h0, u32_sub (by omega)]
      refine mid _ ?_
      unfold lastN
      rw [e1, if_neg h0]
      rfl
theorem ho_test_out {H : HV} {i : Nat} {s : Nat → Bool} {w : sm_Mem} (h : CH w H) (hok : HOk H) (hi : i < hN H) : ∀ (m a7 F : Nat) (b : Int32) (l : Nat), a7 + m = 7 → m < F → l ≤ 7 → ff_ho_test_44_f F (u32 i) (u32 (setV s)) b (u32 l) (u32 a7) w = some (.int (tF (partN H i s) (6 * a7) (6 * m) (b, l)).1, sm_wI w 60 0 (u32 (tF (partN H i s) (6 * a7) (6 * m) (b, l)).2)) := by
  intro m
  induction m with
  | zero =>
    intro a7 F b l hm hF hl
    obtain ⟨F, rfl⟩ : ∃ G, F = G + 1 := ⟨F - 1, by omega⟩
    rw [ff_ho_test_44_f]
    unfold ff_ho_test_44_b
    simp (disch := omega) only [u32_lit, u32_lt, if_pos, sm_let_eq, tF]
  | succ m ih =>
    intro a7 F b l hm hF hl
    obtain ⟨F, rfl⟩ : ∃ G, F = G + 1 := ⟨F - 1, by omega⟩
    rw [ff_ho_test_44_f]
    unfold ff_ho_test_44_b ff_ho_test_54
    simp (disch := omega) only [u32_lit, u32_lt, if_neg]
    have hP : ∀ n, partN H i s n ≤ 6 := fun n => partV_le _ _
    rw [sm_N_eq, ho_test_in h hok hi _ (by omega) 6 0 1000000 b l (by omega) (by omega) hl, ih (a7 + 1) F _ _ (by omega) (by omega) (tF_le hP 6 _ _ hl), show 6 * (m + 1) = 6 + 6 * m by omega, tF_add, show 6 * (a7 + 1) = 6 * a7 + 6 by omega]
    rfl
