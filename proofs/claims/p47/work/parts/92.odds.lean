/-! pure: odds, mid -/
theorem spread_in {V : List (List Nat)} {k : Nat} {self : Int32 → sm_Mem → sm_R} (hk : k < 6) (hV : ∀ s m, reachV V s = some m → m ≤ 5) : ∀ (m s F : Nat) (w : sm_Mem), s + m = 64 → m < F → (∀ j, j < s → w.1 54 j = oAns (spr V (k + 1) j)) → (∀ j, s ≤ j → j < 64 → w.1 54 j = oAns (spr V k j)) → ∃ w1, ff_wy_spreadReach_15_f self F (u32 k) (u32 s) w = self (u32 (k + 1)) w1 ∧ (∀ j, j < 64 → w1.1 54 j = oAns (spr V (k + 1) j)) ∧ (∀ a, a ≠ 54 → w1.1 a = w.1 a) ∧ w1.2 = w.2 := by
  intro m
  induction m with
  | zero =>
    intro s F w hm hF h1 h2
    obtain ⟨F, rfl⟩ : ∃ G, F = G + 1 := ⟨F - 1, by omega⟩
    refine ⟨w, ?_, fun j hj => h1 j (by omega), fun _ _ => rfl, rfl⟩
    rw [ff_wy_spreadReach_15_f]
    unfold ff_wy_spreadReach_15_b
    simp (disch := omega) only [u32_lit, al_reach, bs_, u32_le, if_pos, u32_add]
  | succ m ih =>
    intro s F w hm hF h1 h2
    obtain ⟨F, rfl⟩ : ∃ G, F = G + 1 := ⟨F - 1, by omega⟩
    have hs : s < 64 := by omega
    have e1 := h2 s (Nat.le_refl _) hs
    have hc := clr_lt (k := k) hs
    have e2 : w.1 54 (clr s k) = oAns (spr V k (clr s k)) := by
      have hle : clr s k ≤ s := Nat.and_le_left
      by_cases e : clr s k = s
      · rw [e]; exact e1
      · rw [h1 (clr s k) (by omega), spr_clr hs hk]
    have e3 : (if oAns (spr V k s) < oAns (spr V k (clr s k)) then oAns (spr V k (clr s k)) else oAns (spr V k s)) = oAns (spr V (k + 1) s) := maxO_cell (spr_le hV k s) (spr_le hV k (clr s k))
    obtain ⟨w1, a1, a2, a3, a4⟩ := ih (s + 1) F (sm_wI w 54 s (oAns (spr V (k + 1) s))) (by omega) (by omega) (fun j hj => by
      by_cases e : j = s
      · rw [e, sm_wI_eq]
      · rw [sm_wI_nj e]; exact h1 j (by omega)) (fun j hj hj2 => by rw [sm_wI_nj (by omega)]; exact h2 j (by omega) hj2)
    refine ⟨w1, ?_, a2, fun a ha => by rw [a3 a ha, sm_wI_ne ha], by rw [a4]; rfl⟩
    rw [ff_wy_spreadReach_15_f]
    unfold ff_wy_spreadReach_15_b
    simp (disch := omega) only [u32_lit, al_reach, bs_, u32_le, if_neg, sm_rd_u, e1]
    rw [clr_u hs hk, sm_rd_u hc (by omega), bs_, e2, e3, sm_wr_u hs (by omega), bs_, u32_add]
    exact a1
theorem spread_out {V : List (List Nat)} {n : Nat} (hn : n ≤ 6) (hV : ∀ s m, reachV V s = some m → m ≤ 5) : ∀ (m k F : Nat) (w : sm_Mem), k + m = n → m < F → w.1 36 0 = u32 n → (∀ j, j < 64 → w.1 54 j = oAns (spr V k j)) → ∃ w1, ff_wy_spreadReach_2_f F (u32 k) w = some (.null, w1) ∧ (∀ j, j < 64 → w1.1 54 j = oAns (spr V n j)) ∧ (∀ a, a ≠ 54 → w1.1 a = w.1 a) ∧ w1.2 = w.2 := by
  intro m
  induction m with
  | zero =>
    intro k F w hm hF hw h
    obtain ⟨F, rfl⟩ : ∃ G, F = G + 1 := ⟨F - 1, by omega⟩
    have : k = n := by omega
    subst this
    refine ⟨w, ?_, h, fun _ _ => rfl, rfl⟩
    rw [ff_wy_spreadReach_2_f]
    unfold ff_wy_spreadReach_2_b
    simp (disch := omega) only [u32_lit, hw, u32_le, if_pos]
  | succ m ih =>
    intro k F w hm hF hw h
    obtain ⟨F, rfl⟩ : ∃ G, F = G + 1 := ⟨F - 1, by omega⟩
    obtain ⟨w1, a1, a2, a3, a4⟩ := spread_in (V := V) (self := ff_wy_spreadReach_2_f F) (show k < 6 by omega) hV 64 0 1000000 w (by omega) (by omega) (fun j hj => absurd hj (Nat.not_lt_zero _)) (fun j _ hj => h j hj)
    obtain ⟨w2, b1, b2, b3, b4⟩ := ih (k + 1) F w1 (by omega) (by omega) (by rw [a3 36 (by decide)]; exact hw) a2
    refine ⟨w2, ?_, b2, fun a ha => by rw [b3 a ha, a3 a ha], by rw [b4, a4]⟩
    rw [ff_wy_spreadReach_2_f]
    unfold ff_wy_spreadReach_2_b
    simp (disch := omega) only [u32_lit, hw, u32_le, if_neg]
    unfold ff_wy_spreadReach_15
    rw [sm_N_eq, a1]
    exact b1
theorem wy_weightOf {n p s : Nat} {w : sm_Mem} (hn : n ≤ 6) (hp : p ≤ 12) (hs : s < 64) (hw : w.1 36 0 = u32 n) : ff_wy_weightOf (u32 s) (u32 p) w = some (.long (u64 (wgt n p s)), w) := by
  have loop : ∀ (m i F a : Nat), i + m = n → m < F → ff_wy_weightOf_5_f F (u32 s) (u32 p) (u64 a) (u32 i) w = some (.long (u64 (prodN (fun i => if s.testBit i = true then 12 - p else p) i m a)), w) := by
    intro m
    induction m with
    | zero =>
      intro i F a hm hF
      obtain ⟨F, rfl⟩ : ∃ G, F = G + 1 := ⟨F - 1, by omega⟩
      rw [ff_wy_weightOf_5_f]
      unfold ff_wy_weightOf_5_b
      simp (disch := omega) only [hw, u32_le, if_pos, prodN]
    | succ m ih =>
      intro i F a hm hF
      obtain ⟨F, rfl⟩ : ∃ G, F = G + 1 := ⟨F - 1, by omega⟩
      rw [ff_wy_weightOf_5_f, prodN]
      unfold ff_wy_weightOf_5_b ff_wy_weightOf_37
      simp (disch := omega) only [u32_lit, hw, u32_le, if_neg, u32_bit hs (show i < 6 by omega), u32_bool_eq0, u32_sub, u32_64, u64_mul, u32_add]
      cases hb : s.testBit i with
      | true =>
        rw [if_neg (by decide), if_pos rfl]
        exact ih (i + 1) F _ (by omega) (by omega)
      | false =>
        rw [if_pos rfl, if_neg (by decide)]
        exact ih (i + 1) F _ (by omega) (by omega)
  unfold ff_wy_weightOf ff_wy_weightOf_5
  rw [sm_N_eq]
  exact loop n 0 1000000 1 (by omega) (by omega)
theorem wy_weightOfAny {n : Nat} {w : sm_Mem} (hn : n ≤ 6) (hw : w.1 36 0 = u32 n) : ff_wy_weightOfAny w = some (.long (u64 (12 ^ n)), w) := by
  have loop : ∀ (m i F a : Nat), i + m = n → m < F → ff_wy_weightOfAny_4_f F (u64 a) (u32 i) w = some (.long (u64 (a * 12 ^ m)), w) := by
    intro m
    induction m with
    | zero =>
      intro i F a hm hF
      obtain ⟨F, rfl⟩ : ∃ G, F = G + 1 := ⟨F - 1, by omega⟩
      rw [ff_wy_weightOfAny_4_f]
      unfold ff_wy_weightOfAny_4_b
      simp (disch := omega) only [hw, u32_le, if_pos, Nat.pow_zero, Nat.mul_one]
    | succ m ih =>
      intro i F a hm hF
      obtain ⟨F, rfl⟩ : ∃ G, F = G + 1 := ⟨F - 1, by omega⟩
      rw [ff_wy_weightOfAny_4_f]
      unfold ff_wy_weightOfAny_4_b
      simp (disch := omega) only [u32_lit, u64_lit, hw, u32_le, if_neg, u64_mul, u32_add]
      rw [ih (i + 1) F _ (by omega) (by omega), Nat.pow_succ, Nat.mul_assoc, Nat.mul_comm 12]
  unfold ff_wy_weightOfAny ff_wy_weightOfAny_4
  rw [sm_N_eq]
  have := loop n 0 1000000 1 (by omega) (by omega)
  rw [Nat.one_mul] at this
  exact this
theorem all_u {n : Nat} (hn : n ≤ 6) : (u32 1 <<< (u32 n &&& u32 31)) - u32 1 = u32 (2 ^ n - 1) ∧ (u32 1 <<< (u32 n &&& u32 31)) = u32 (2 ^ n) := by
  have key : ∀ n, n < 7 → (u32 1 <<< (u32 n &&& u32 31)) - u32 1 = u32 (2 ^ n - 1) ∧ (u32 1 <<< (u32 n &&& u32 31)) = u32 (2 ^ n) := by decide +kernel
  exact key n (by omega)
def gainV (fl n p : Nat) (gs : List Gl) (H : HV) (s : Nat) : Nat := if fl = 1 then (if farL (comp n s) gs H 0 gs.length = gs.length then wgt n p s else 0) else farL (comp n s) gs H 0 gs.length * wgt n p s
theorem pow_n {n : Nat} (hn : n ≤ 6) : 0 < 2 ^ n ∧ 2 ^ n ≤ 64 ∧ 0 < 12 ^ n ∧ 12 ^ n ≤ 2985984 := by
  have key : ∀ n, n < 7 → 0 < 2 ^ n ∧ 2 ^ n ≤ 64 ∧ 0 < 12 ^ n ∧ 12 ^ n ≤ 2985984 := by decide
  exact key n (by omega)
theorem wy_full_loop {n p : Nat} {gs : List Gl} {H : HV} {w : sm_Mem} (hn : n ≤ 6) (hp : p ≤ 12) (h5 : gs.length ≤ 5) (hw : w.1 36 0 = u32 n) (hL : w.1 49 3 = u32 gs.length) (hc : ∀ s, s < 2 ^ n → w.1 54 s = u32 (farL (comp n s) gs H 0 gs.length)) : ∀ (m s F : Nat), s + m = 2 ^ n → m < F → ff_wy_weightOfFull_9_f F (u32 p) (u64 (sumN (gainV 1 n p gs H) s)) (u32 s) w = some (.long (u64 (sumN (gainV 1 n p gs H) (2 ^ n))), w) := by
  obtain ⟨q1, q2, -, -⟩ := pow_n hn
  intro m
  induction m with
  | zero =>
    intro s F hm hF
    obtain ⟨F, rfl⟩ : ∃ G, F = G + 1 := ⟨F - 1, by omega⟩
    have : s = 2 ^ n := by omega
    subst this
    rw [ff_wy_weightOfFull_9_f]
    unfold ff_wy_weightOfFull_9_b ff_hs_allSpeakers
    simp (disch := omega) only [u32_lit, cI_, hw, (all_u hn).1, u32_lt, if_pos]
  | succ m ih =>
    intro s F hm hF
    obtain ⟨F, rfl⟩ : ∃ G, F = G + 1 := ⟨F - 1, by omega⟩
    have hs : s < 2 ^ n := by omega
    have hfl := (farL_le (sil := comp n s) (gs := gs) (H := H) gs.length 0).2
    have ih := ih (s + 1) F (by omega) (by omega)
    rw [sumN, gainV, if_pos rfl] at ih
    rw [ff_wy_weightOfFull_9_f]
    unfold ff_wy_weightOfFull_9_b ff_hs_allSpeakers
    simp (disch := omega) only [u32_lit, cI_, hw, (all_u hn).1, u32_lt, if_neg, sm_rd_u, bs_, hc s hs, hL, u32_eq, wy_weightOf hn hp (show s < 64 by omega) hw, cL_, u64_add, u32_add]
    by_cases e : farL (comp n s) gs H 0 gs.length = gs.length
    · rw [if_pos e] at ih ⊢
      exact ih
    · rw [if_neg e] at ih ⊢
      exact ih
theorem wy_words_sum {n p : Nat} {gs : List Gl} {H : HV} {w : sm_Mem} (hn : n ≤ 6) (hp : p ≤ 12) (h5 : gs.length ≤ 5) (hw : w.1 36 0 = u32 n) (hc : ∀ s, s < 2 ^ n → w.1 54 s = u32 (farL (comp n s) gs H 0 gs.length)) : ∀ (m s F : Nat), s + m = 2 ^ n → m < F → ff_wy_weightOfWords_9_f F (u32 p) (u64 (sumN (gainV 0 n p gs H) s)) (u32 s) w = some (.long (u64 (sumN (gainV 0 n p gs H) (2 ^ n))), w) := by
  obtain ⟨q1, q2, -, -⟩ := pow_n hn
  intro m
  induction m with
  | zero =>
    intro s F hm hF
    obtain ⟨F, rfl⟩ : ∃ G, F = G + 1 := ⟨F - 1, by omega⟩
    have : s = 2 ^ n := by omega
    subst this
    rw [ff_wy_weightOfWords_9_f]
    unfold ff_wy_weightOfWords_9_b ff_hs_allSpeakers
    simp (disch := omega) only [u32_lit, cI_, hw, (all_u hn).1, u32_lt, if_pos]
  | succ m ih =>
    intro s F hm hF
    obtain ⟨F, rfl⟩ : ∃ G, F = G + 1 := ⟨F - 1, by omega⟩
    have hs : s < 2 ^ n := by omega
    have hfl := (farL_le (sil := comp n s) (gs := gs) (H := H) gs.length 0).2
    have ih := ih (s + 1) F (by omega) (by omega)
    rw [sumN, gainV, if_neg (by decide)] at ih
    rw [ff_wy_weightOfWords_9_f]
    unfold ff_wy_weightOfWords_9_b ff_hs_allSpeakers
    simp (disch := omega) only [u32_lit, cI_, hw, (all_u hn).1, u32_lt, if_neg, sm_rd_u, bs_, hc s hs, wy_weightOf hn hp (show s < 64 by omega) hw, cL_, u32_64, u64_mul, u64_add, u32_add]
    exact ih
/-- the class's sums -/
theorem wy_spread {n : Nat} {gs : List Gl} {H : HV} {w : sm_Mem} (hn : n = hN H) (h6 : n ≤ 6) (hw : w.1 36 0 = u32 n) (hA : AccD w (tre 0 gs H)) : ∃ w1, ff_wy_spreadReach w = some (.null, w1) ∧ (∀ s, s < 2 ^ n → w1.1 54 s = u32 (farL (comp n s) gs H 0 gs.length)) ∧ (∀ a, a ≠ 54 → w1.1 a = w.1 a) ∧ w1.2 = w.2 := by
  obtain ⟨w1, a1, a2, a3, a4⟩ := spread_out h6 hA.2 n 0 1000000 w (by omega) (by omega) hw (fun j hj => hA.1.2 j hj)
  have q2 := (pow_n h6).2.1
  refine ⟨w1, ?_, fun s hs => by rw [a2 s (by omega), spr_far hn h6 hs]; rfl, a3, a4⟩
  unfold ff_wy_spreadReach ff_wy_spreadReach_2
  rw [sm_N_eq]
  exact a1
theorem comp_comp {n s : Nat} (hs : s < 2 ^ n) : comp n (comp n s) = s := by
  unfold comp
  omega
