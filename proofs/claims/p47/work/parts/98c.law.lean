/-! pure: the law's own small functions; its house -/
theorem and_pos (x : Int32) : ∃ m, m < 2147483648 ∧ x &&& u32 2147483647 = u32 m := by
  rcases u32_cases (x &&& u32 2147483647) with h | h
  · rw [Int32.lt_iff_toInt_lt] at h
    have e0 : (u32 0).toInt = 0 := rfl
    rw [e0] at h
    have h2 : ((x &&& u32 2147483647).toBitVec).msb = false := by
      show (x.toBitVec &&& (u32 2147483647).toBitVec).msb = false
      rw [BitVec.msb_and]
      have : ((u32 2147483647).toBitVec).msb = false := by decide
      rw [this, Bool.and_false]
    rw [BitVec.msb_eq_toInt, decide_eq_false_iff_not] at h2
    exact absurd h h2
  · exact h
theorem la_low (x : Int32) {n : Nat} (hn : 0 < n) (hn2 : n < 2147483648) : ∃ m, m < n ∧ ∀ w, ff_la_low x (u32 n) w = some (.int (u32 m), w) := by
  obtain ⟨m, h1, h2⟩ := and_pos x
  refine ⟨m % n, Nat.mod_lt _ hn, fun w => ?_⟩
  unfold ff_la_low
  have hz : ¬ u32 n = u32 0 := by rw [u32_eq hn2 (by decide)]; omega
  have hd : m / n * n ≤ m := Nat.div_mul_le_self m n
  have hm : m - m / n * n = m % n := by
    have := Nat.div_add_mod m n
    rw [Nat.mul_comm] at this
    omega
  simp only [u32_lit, h2, if_neg hz]
  rw [u32_div h1 hn2, u32_mul, u32_sub hd, hm]
theorem la_cell (E : Nat × (Nat → Int32)) (hE : E.1 ≤ 260) (k : Nat) (hk : k < 1000) : ∃ x, ∀ w, ff_la_cell E (u32 k) w = some (.int x, w) := by
  by_cases h : E.1 ≤ k
  · refine ⟨u32 40503 * (u32 k + u32 7), fun w => ?_⟩
    unfold ff_la_cell
    have e : (Int32.ofNat E.1 ≤ u32 k) = True := eq_true ((u32_le (a := E.1) (by omega) (by omega)).mpr h)
    simp only [u32_lit, e, if_true]
  · refine ⟨E.2 k, fun w => ?_⟩
    unfold ff_la_cell
    have e : (Int32.ofNat E.1 ≤ u32 k) = False := eq_false (fun q => h ((u32_le (a := E.1) (by omega) (by omega)).mp q))
    simp only [e, if_false]
    rw [sm_sc_u (by omega) (by omega)]
    rfl
def popF (b : Nat) : Nat → Nat → Nat
  | _, 0 => 0
  | k, m + 1 => (b.testBit k).toNat + popF b (k + 1) m
theorem la_bits_loop {b : Nat} {w : sm_Mem} (hb : b < 64) : ∀ (m k a F : Nat), k + m = 6 → m < F → a + m < 1000 → ff_la_bits_4_f F (u32 b) (u32 a) (u32 k) w = some (.int (u32 (a + popF b k m)), w) := by
  intro m
  induction m with
  | zero =>
    intro k a F hk hF ha
    obtain ⟨F, rfl⟩ : ∃ G, F = G + 1 := ⟨F - 1, by omega⟩
    rw [ff_la_bits_4_f]
    unfold ff_la_bits_4_b
    simp (disch := omega) only [u32_lit, sm_let_eq, sm_bind_some, sm_cI_some, sm_cV_some, sm_cL_some, sm_rd_u, sm_wr_u, u32_add, u32_mul, u32_sub, u32_le, u32_lt, u32_eq, u32_eq_neg, u32_neg_eq, u32_neg_neg, u32_le_neg, u32_neg_lt, u32_lt_neg, u32_neg_le, u10, u01, u3n0, u1n0, u4n0, n9_lt, n1_lt, n9_neg, n1_neg, if_true, if_false, if_pos, if_neg, ne_eq, not_true_eq_false, not_false_eq_true, popF, Nat.add_zero]
  | succ m ih =>
    intro k a F hk hF ha
    obtain ⟨F, rfl⟩ : ∃ G, F = G + 1 := ⟨F - 1, by omega⟩
    have ht : (b.testBit k).toNat ≤ 1 := by cases b.testBit k <;> decide
    rw [ff_la_bits_4_f]
    unfold ff_la_bits_4_b
    simp (disch := omega) only [u32_lit, u32_le, if_neg, u32_bit hb (show k < 6 by omega), u32_add]
    rw [ih (k + 1) _ F (by omega) (by omega) (by omega), popF, Nat.add_assoc]
theorem la_bits {b : Nat} {w : sm_Mem} (hb : b < 64) : ff_la_bits (u32 b) w = some (.int (u32 (popV b)), w) := by
  unfold ff_la_bits ff_la_bits_4
  rw [sm_N_eq, u32_lit, la_bits_loop hb 6 0 0 1000000 (by omega) (by omega) (by omega)]
  have e : 0 + popF b 0 6 = popV b := by
    show 0 + ((b.testBit 0).toNat + ((b.testBit 1).toNat + ((b.testBit 2).toNat + ((b.testBit 3).toNat + ((b.testBit 4).toNat + ((b.testBit 5).toNat + 0)))))) = (b.testBit 0).toNat + (b.testBit 1).toNat + (b.testBit 2).toNat + (b.testBit 3).toNat + (b.testBit 4).toNat + (b.testBit 5).toNat
    omega
  rw [e]
theorem la_told {B : HBase} {ds : List Deed} {i x : Nat} {w : sm_Mem} (h : RHs w B ds) (hi : i < B.1) (hx : x < 6) : ff_la_told (u32 i) (u32 x) w = some (.int (factV B (playV B ds).1 i x), sm_wI w 60 0 (factV B (playV B ds).1 i x)) := by
  unfold ff_la_told ff_ho_asked
  rw [ch_speaker h hi hx]
  simp only [u32_lit, cI_, if_true, sm_wI_eq]
theorem la_laid_loop {n m : Nat} (hn : n ≤ 8) (hm : m ≤ 40) (hnm : n ≤ m) : ∀ (d k F : Nat) (w : sm_Mem), k + d = n → d < F → w.1 6 1 = u32 m → ∃ w1, ff_la_laid_5_f F (u32 n) (u32 1) (u32 k) w = some (.int (u32 1), w1) ∧ (∀ j, k ≤ j → j < n → w1.1 7 j = w.1 64 j) ∧ (∀ j, j < k → w1.1 7 j = w.1 7 j) ∧ (∀ a, a ≠ 7 → a ≠ 60 → w1.1 a = w.1 a) ∧ w1.2 = w.2 := by
  intro d
  induction d with
  | zero =>
    intro k F w hk hF hw
    obtain ⟨F, rfl⟩ : ∃ G, F = G + 1 := ⟨F - 1, by omega⟩
    refine ⟨w, ?_, fun j a b => absurd a (by omega), fun _ _ => rfl, fun _ _ _ => rfl, rfl⟩
    rw [ff_la_laid_5_f]
    unfold ff_la_laid_5_b
    simp (disch := omega) only [u32_lit, sm_let_eq, sm_bind_some, sm_cI_some, sm_cV_some, sm_cL_some, sm_rd_u, sm_wr_u, u32_add, u32_mul, u32_sub, u32_le, u32_lt, u32_eq, u32_eq_neg, u32_neg_eq, u32_neg_neg, u32_le_neg, u32_neg_lt, u32_lt_neg, u32_neg_le, u10, u01, u3n0, u1n0, u4n0, n9_lt, n1_lt, n9_neg, n1_neg, if_true, if_false, if_pos, if_neg, ne_eq, not_true_eq_false, not_false_eq_true, rz_1]
  | succ d ih =>
    intro k F w hk hF hw
    obtain ⟨F, rfl⟩ : ∃ G, F = G + 1 := ⟨F - 1, by omega⟩
    have hl := ch_lay (r := 2) (n := m) (i := k) (v := w.1 64 k) (w := w) (by decide) hm hw (by omega)
    obtain ⟨w1, a1, a2, a3, a4, a5⟩ := ih (k + 1) F (sm_wI (sm_wI w 60 0 (w.1 7 k)) 7 k (w.1 64 k)) (by omega) (by omega) (by simp (disch := omega) only [sm_wI_ne, sm_wI_nj, sm_wI_eq, sm_wA_ne, sm_wA_eq]; exact hw)
    refine ⟨w1, ?_, fun j b1 b2 => ?_, fun j b1 => ?_, fun a b1 b2 => ?_, a5⟩
    · rw [ff_la_laid_5_f]
      unfold ff_la_laid_5_b
      simp (disch := omega) only [u32_lit, u32_le, if_neg, u10, if_false, sm_rd_u, sm_bind_some]
      rw [hl]
      simp (disch := omega) only [cI_, if_true, u32_add]
      exact a1
    · by_cases e : j = k
      · rw [e, a3 k (by omega), sm_wI_eq]
      · rw [a2 j (by omega) b2]
        simp (disch := omega) only [sm_wI_ne, sm_wI_nj, sm_wI_eq, sm_wA_ne, sm_wA_eq]
    · rw [a3 j (by omega)]
      simp (disch := omega) only [sm_wI_ne, sm_wI_nj, sm_wI_eq, sm_wA_ne, sm_wA_eq]
    · rw [a4 a b1 b2, sm_wI_ne b1, sm_wI_ne b2]
theorem la_laid {n m : Nat} {w : sm_Mem} (hn : n ≤ 8) (hm : m ≤ 40) (hnm : n ≤ m) (hw : w.1 6 1 = u32 m) : ∃ w1, ff_la_laid (u32 n) w = some (.int (u32 1), w1) ∧ (∀ j, j < n → w1.1 7 j = w.1 64 j) ∧ (∀ a, a ≠ 7 → a ≠ 60 → w1.1 a = w.1 a) ∧ w1.2 = w.2 := by
  obtain ⟨w1, a1, a2, a3, a4, a5⟩ := la_laid_loop hn hm hnm n 0 1000000 w (by omega) (by omega) hw
  refine ⟨w1, ?_, fun j hj => a2 j (Nat.zero_le _) hj, a4, a5⟩
  unfold ff_la_laid ff_la_laid_5
  rw [sm_N_eq, u32_lit, u32_lit]
  exact a1
/-! whether one is able; can -/
theorem and1 {h : Nat} (hh : h < 1000) : u32 h &&& u32 1 = u32 (h % 2) := by
  have key : ∀ h, h < 1000 → u32 h &&& u32 1 = u32 (h % 2) := by decide +kernel
  exact key h hh
def a42 (k hr x : Nat) (o : Option Nat) (tb : Bool) : Bool := tb && (if k = 2 then hr % 2 == 0 else if k = 3 then o.isSome else if k = 4 then (o.isSome && x % 2 == 1) else true)
def nextV (o : Option Nat) (x : Nat) : Bool := match o with
  | none => false
  | some l => x == (l + 1) % 6
theorem last_neg {o : Option Nat} (ho : ∀ l, o = some l → l < 6) : (oAns o < u32 0) = (o = none) := by
  cases o with
  | none => exact propext ⟨fun _ => rfl, fun _ => by rw [show (oAns none < u32 0) = True from n9_neg]; trivial⟩
  | some l =>
    have := ho l rfl
    show (u32 l < u32 0) = _
    rw [u0_lt (by omega)]
    exact propext ⟨False.elim, fun h => by cases h⟩
theorem ab42 {k wd hr x : Nat} {o : Option Nat} {w : sm_Mem} (hk : k < 6) (hwd : wd < 64) (hx : x < 6) (hh : hr < 1000) (ho : ∀ l, o = some l → l < 6) : ff_la_able_42 (u32 k) (u32 wd) (oAns o) (u32 x) (u32 hr) w = some (.int (u32 (a42 k hr x o (wd.testBit x)).toNat), w) := by
  unfold ff_la_able_42 a42
  simp (disch := omega) only [u32_lit, u32_bit hwd hx, and1, u32_eq, u32_bool_eq0, last_neg ho]
  cases wd.testBit x with
  | false => rfl
  | true =>
    rw [if_neg (by decide), Bool.true_and]
    by_cases k2 : k = 2
    · rw [if_pos k2, if_pos k2]
      rcases (show hr % 2 = 0 ∨ hr % 2 = 1 by omega) with h | h <;> rw [h] <;> rfl
    · rw [if_neg k2, if_neg k2]
      by_cases k3 : k = 3
      · rw [if_pos k3, if_pos k3]
        cases o <;> rfl
      · rw [if_neg k3, if_neg k3]
        by_cases k4 : k = 4
        · rw [if_pos k4, if_pos k4]
          cases o with
          | none => rfl
          | some l => rcases (show x % 2 = 0 ∨ x % 2 = 1 by omega) with h | h <;> rw [h] <;> rfl
        · rw [if_neg k4, if_neg k4]
          rfl
theorem ab15 {k wd hr x : Nat} {o : Option Nat} {w : sm_Mem} (hk : k < 6) (hwd : wd < 64) (hx : x < 6) (hh : hr < 1000) (ho : ∀ l, o = some l → l < 6) : ff_la_able_15 (u32 k) (u32 wd) (oAns o) (u32 x) (u32 hr) w = some (.int (u32 ((decide (k = 5) && nextV o x) || a42 k hr x o (wd.testBit x)).toNat), w) := by
  have h42 := ab42 (w := w) hk hwd hx hh ho
  unfold ff_la_able_15 ff_la_able_37
  simp (disch := omega) only [u32_lit, u32_eq, last_neg ho, h42]
  by_cases k5 : k = 5
  · rw [if_pos k5, decide_eq_true k5, Bool.true_and]
    cases o with
    | none => rfl
    | some l =>
      have hl := ho l rfl
      have e0 : oAns (some l) = u32 l := rfl
      rw [if_neg (fun h => by cases h), e0]
      simp (disch := omega) only [u32_eq, u32_add]
      rw [show nextV (some l) x = (x == (l + 1) % 6) from rfl]
      by_cases e5 : l = 5
      · rw [if_pos e5, e5]
        by_cases e6 : x = 0
        · rw [if_pos e6, e6]; rfl
        · have : (x == (5 + 1) % 6) = false := by simpa using e6
          rw [if_neg e6, this]; rfl
      · rw [if_neg e5, Nat.mod_eq_of_lt (show l + 1 < 6 by omega)]
        by_cases e6 : x = l + 1
        · have : (x == l + 1) = true := by simpa using e6
          rw [if_pos e6, this]; rfl
        · have : (x == l + 1) = false := by simpa using e6
          rw [if_neg e6, this]; rfl
  · rw [if_neg k5, decide_eq_false k5]
    rfl
theorem ableV_eq {k wd hr x : Nat} {o : Option Nat} (hk : k < 6) : ableV k wd hr o x = ((decide (k = 1 ∨ k = 5) && decide (o = some x)) || ((decide (k = 5) && nextV o x) || a42 k hr x o (wd.testBit x))) := by
  unfold ableV a42 nextV
  generalize wd.testBit x = b
  have hd : (o == some x) = decide (o = some x) := by
    by_cases h : o = some x
    · rw [decide_eq_true h, h]; simp
    · rw [decide_eq_false h]; simpa using h
  rcases (show k = 0 ∨ k = 1 ∨ k = 2 ∨ k = 3 ∨ k = 4 ∨ k = 5 by omega) with rfl | rfl | rfl | rfl | rfl | rfl
  · cases b <;> rfl
  · show (b || (o == some x)) = _
    rw [hd]
    cases b <;> cases decide (o = some x) <;> rfl
  · cases b <;> rfl
  · cases b <;> rfl
  · cases b <;> rfl
  · cases o with
    | none => cases b <;> rfl
    | some l =>
      have e : decide (some l = some x) = (x == l) := by
        by_cases h : x = l
        · rw [h]; simp
        · have h' : ¬ some l = some x := fun q => h (by cases q; rfl)
          rw [decide_eq_false h']
          simpa using h
      rw [e]
      show (b || (x == l || x == (l + 1) % 6)) = (true && (x == l) || (true && (x == (l + 1) % 6) || (b && true)))
      cases b <;> cases (x == l) <;> cases (x == (l + 1) % 6) <;> rfl
theorem la_able {k wd hr x : Nat} {o : Option Nat} {w : sm_Mem} (hk : k < 6) (hwd : wd < 64) (hx : x < 6) (hh : hr < 1000) (ho : ∀ l, o = some l → l < 6) : ff_la_able (u32 k) (u32 wd) (oAns o) (u32 x) (u32 hr) w = some (.int (u32 (ableV k wd hr o x).toNat), w) := by
  have h15 := ab15 (w := w) hk hwd hx hh ho
  rw [ableV_eq hk]
  unfold ff_la_able ff_la_able_10
  simp (disch := omega) only [u32_lit, u32_eq, u32_oAns hx ho, h15]
  by_cases h1 : k = 1
  · rw [if_pos h1, decide_eq_true (Or.inl h1), Bool.true_and]
    by_cases h : o = some x
    · rw [if_pos h, decide_eq_true h]; rfl
    · rw [if_neg h, decide_eq_false h]; rfl
  · rw [if_neg h1]
    by_cases h5 : k = 5
    · rw [if_pos h5, decide_eq_true (Or.inr h5 : k = 1 ∨ k = 5), Bool.true_and]
      by_cases h : o = some x
      · rw [if_pos h, decide_eq_true h]; rfl
      · rw [if_neg h, decide_eq_false h]; rfl
    · rw [if_neg h5, decide_eq_false (show ¬ (k = 1 ∨ k = 5) by omega)]
      rfl
def ordL (w : sm_Mem) : List (Nat × Nat) → Prop
  | [] => True
  | p :: r => w.1 63 (3 + r.length) = u32 p.1 ∧ w.1 63 (11 + r.length) = u32 p.2 ∧ ordL w r
/-- the law's house: cells 62, 63 -/
def GV (w : sm_Mem) (B : HBase) (X : HX) : Prop := w.1 62 0 = u32 B.1 ∧ (∀ i, i < B.1 → w.1 62 (1 + i) = u32 (B.2.1 i) ∧ w.1 62 (7 + i) = u32 (B.2.2.1 i) ∧ w.1 62 (13 + i) = u32 (B.2.2.2.2 i) ∧ w.1 63 (19 + i) = u32 (hR X.1 i) ∧ w.1 63 (25 + i) = u32 (hB X.1 i)) ∧ w.1 63 0 = u32 (hH X.1) ∧ w.1 63 1 = u32 (hO X.1).length ∧ w.1 63 2 = u32 X.2 ∧ ordL w (hO X.1)
theorem ordL_fr {w w1 : sm_Mem} : ∀ (od : List (Nat × Nat)), od.length ≤ 8 → (∀ j, 3 ≤ j → j < 19 → (j < 3 + od.length ∨ (11 ≤ j ∧ j < 11 + od.length)) → w1.1 63 j = w.1 63 j) → ordL w od → ordL w1 od
  | [], _, _, _ => trivial
  | p :: r, h8, h, ho => by
    rw [List.length_cons] at h8 h
    refine ⟨?_, ?_, ordL_fr r (by omega) (fun j a b c => h j a b (by omega)) ho.2.2⟩
    · rw [h (3 + r.length) (by omega) (by omega) (by omega)]; exact ho.1
    · rw [h (11 + r.length) (by omega) (by omega) (by omega)]; exact ho.2.1
theorem GV.fr {w w1 : sm_Mem} {B : HBase} {X : HX} (h1 : w1.1 62 = w.1 62) (h2 : w1.1 63 = w.1 63) (h : GV w B X) : GV w1 B X := by
  have ho : ∀ (od : List (Nat × Nat)), ordL w od → ordL w1 od := by
    intro od
    induction od with
    | nil => intro _; trivial
    | cons p r ih => intro h; exact ⟨by rw [h2]; exact h.1, by rw [h2]; exact h.2.1, ih h.2.2⟩
  unfold GV at h ⊢
  rw [h1, h2]
  exact ⟨h.1, h.2.1, h.2.2.1, h.2.2.2.1, h.2.2.2.2.1, ho _ h.2.2.2.2.2⟩
theorem la_lastWord {w : sm_Mem} {B : HBase} {X : HX} (h : GV w B X) (hok : HOk X.1) : ff_la_lastWord w = some (.int (oAns (lastW (hO X.1))), w) := by
  obtain ⟨-, -, -, h4, -, h6⟩ := h
  have h8 := hok.2.2.2.1
  unfold ff_la_lastWord
  cases ho : hO X.1 with
  | nil =>
    rw [ho] at h4
    simp (disch := omega) only [u32_lit, sm_rd_u, sm_bind_some, h4, List.length_nil, if_true]
    rfl
  | cons p r =>
    rw [ho] at h4 h6 h8
    rw [List.length_cons] at h4 h8
    have e : w.1 63 (2 + (r.length + 1)) = u32 p.1 := by
      rw [show 2 + (r.length + 1) = 3 + r.length by omega]
      exact h6.1
    simp (disch := omega) only [u32_lit, sm_rd_u, sm_bind_some, h4, u32_eq, if_neg, u32_add, e]
    rfl
theorem near_l {a b : Nat} (ha : a < 6) (hb : b < 6) : ((u32 1 < u32 a - u32 b) = (b + 1 < a)) ∧ ((-u32 1 ≤ u32 a - u32 b) = (b ≤ a + 1)) := by
  have key : ∀ a, a < 6 → ∀ b, b < 6 → (decide (u32 1 < u32 a - u32 b) = decide (b + 1 < a)) ∧ (decide (-u32 1 ≤ u32 a - u32 b) = decide (b ≤ a + 1)) := by decide +kernel
  obtain ⟨h1, h2⟩ := key a ha b hb
  rw [decide_eq_decide] at h1 h2
  exact ⟨propext h1, propext h2⟩
theorem neg1_lit : (-1 : Int32) = -u32 1 := by decide
theorem la_can {w : sm_Mem} {B : HBase} {X : HX} {i x : Nat} (h : GV w B X) (hok : HOk X.1) (hn : hN X.1 = B.1) (hk : hK X.1 = B.2.1) (hw : hW X.1 = B.2.2.1) (hi : i < B.1) (hx : x < 6) : ff_la_can (u32 i) (u32 x) w = some (.int (u32 (canV X.1 i x).toNat), w) := by
  have hl := la_lastWord h hok
  obtain ⟨h1, h2, h3, h4, h5, h6⟩ := id h
  have hn6 := hok.1
  have h8 := hok.2.2.2.1
  obtain ⟨o1, o2, o3, o4⟩ := hok.2.1 i (by omega)
  obtain ⟨g1, g2, g3, g4, g5⟩ := h2 i hi
  have h71 : ff_la_can_71 (u32 i) (u32 x) w = some (.int (u32 (ableV (hK X.1 i) (hW X.1 i) (hH X.1) (lastW (hO X.1)) x).toNat), w) := by
    unfold ff_la_can_71
    have ha := la_able (w := w) o1 o2 hx hok.2.2.1 hok.last
    simp (disch := omega) only [u32_lit, u32_add, sm_rd_u, sm_bind_some, g1, g2, hl, cI_, h3]
    rw [hk, hw] at ha
    rw [hk, hw, ha, cI_]
    cases ableV (B.2.1 i) (B.2.2.1 i) (hH X.1) (lastW (hO X.1)) x
    · exact rz_0
    · exact rz_1
  unfold ff_la_can canV freeV
  simp (disch := omega) only [u32_lit, sm_rd_u, sm_bind_some, h4, u32_eq, u32_add, g5]
  by_cases e8 : (hO X.1).length = 8
  · rw [if_pos e8, decide_eq_false (by omega)]
    rfl
  rw [if_neg e8, decide_eq_true (show (hO X.1).length < 8 by omega), Bool.true_and]
  by_cases e0 : hB X.1 i = 0
  · rw [if_pos e0, decide_eq_false (by omega)]
    rfl
  rw [if_neg e0, decide_eq_true (show 0 < hB X.1 i by omega), Bool.true_and]
  unfold besideV
  cases ho : hO X.1 with
  | nil =>
    rw [ho] at h71
    simp (disch := omega) only [List.length_nil, u32_le, Nat.le_refl, if_true]
    rw [h71]
    rfl
  | cons p r =>
    rw [ho] at h71 h6 h8
    rw [List.length_cons] at h8
    have hp := hok.2.2.2.2 p (by rw [ho]; exact List.mem_cons_self)
    have hpi : p.2 < B.1 := by omega
    have hp6 := (hok.2.1 p.2 hp.2).2.2.1
    have gp := (h2 p.2 hpi).2.2.2.1
    have ew : w.1 63 (10 + (r.length + 1)) = u32 p.2 := by
      rw [show 10 + (r.length + 1) = 11 + r.length by omega]
      exact h6.2.1
    obtain ⟨n1, n2⟩ := near_l o3 hp6
    simp (disch := omega) only [List.length_cons, u32_le, if_neg, u32_add, sm_rd_u, sm_bind_some, ew, g4, gp, u32_eq, n1, neg1_lit, n2]
    by_cases e1 : p.2 = i
    · rw [if_pos e1]
      have : (p.2 != i) = false := by simp [e1]
      rw [this]
      rfl
    · rw [if_neg e1]
      have : (p.2 != i) = true := by simpa using e1
      rw [this, Bool.true_and]
      unfold nearV
      by_cases e2 : hR X.1 p.2 + 1 < hR X.1 i
      · rw [if_pos e2, decide_eq_false (by omega)]
        rfl
      · rw [if_neg e2]
        by_cases e3 : hR X.1 p.2 ≤ hR X.1 i + 1
        · rw [if_pos e3, decide_eq_true (by omega), Bool.true_and]
          exact h71
        · rw [if_neg e3, decide_eq_false (by omega)]
          rfl
