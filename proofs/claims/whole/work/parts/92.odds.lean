/-! pure: odds, mid -/
theorem spread_in {V : List (List Nat)} {k : Nat} {self : Int32 → sm_Mem → sm_R} (hk : k < 6) (hV : ∀ s m, reachV V s = some m → m ≤ 5) : ∀ (m s F : Nat) (w : sm_Mem), s + m = 64 → m < F → (∀ j, j < s → w.1 54 j = oAns (spr V (k + 1) j)) → (∀ j, s ≤ j → j < 64 → w.1 54 j = oAns (spr V k j)) → ∃ w1, ff_wy_spreadReach_15_f self F (u32 k) (u32 s) w = self (u32 (k + 1)) w1 ∧ (∀ j, j < 64 → w1.1 54 j = oAns (spr V (k + 1) j)) ∧ (∀ a, a ≠ 54 → w1.1 a = w.1 a) ∧ w1.2 = w.2 := by
  intro m
  induction m with
  | zero =>
    intro s F w hm hF h1 h2
    obtain ⟨F, rfl⟩ : ∃ G, F = G + 1 := ⟨F - 1, by omega⟩
    refine ⟨w, ?_, fun j hj => h1 j (by omega), fun _ _ => rfl, rfl⟩
    rw [ff_wy_spreadReach_15_f]
    unfold ff_wy_spreadReach_15_b
    simp (disch := omega) only [u32_lit, al_reach, bs_, u32_le, if_pos, u32_add]
  | succ m ih =>
    intro s F w hm hF h1 h2
    obtain ⟨F, rfl⟩ : ∃ G, F = G + 1 := ⟨F - 1, by omega⟩
    have hs : s < 64 := by omega
    have e1 := h2 s (Nat.le_refl _) hs
    have hc := clr_lt (k := k) hs
    have e2 : w.1 54 (clr s k) = oAns (spr V k (clr s k)) := by
      have hle : clr s k ≤ s := Nat.and_le_left
      by_cases e : clr s k = s
      · rw [e]; exact e1
      · rw [h1 (clr s k) (by omega), spr_clr hs hk]
    have e3 : (if oAns (spr V k s) < oAns (spr V k (clr s k)) then oAns (spr V k (clr s k)) else oAns (spr V k s)) = oAns (spr V (k + 1) s) := maxO_cell (spr_le hV k s) (spr_le hV k (clr s k))
    obtain ⟨w1, a1, a2, a3, a4⟩ := ih (s + 1) F (sm_wI w 54 s (oAns (spr V (k + 1) s))) (by omega) (by omega) (fun j hj => by
      by_cases e : j = s
      · rw [e, sm_wI_eq]
      · rw [sm_wI_nj e]; exact h1 j (by omega)) (fun j hj hj2 => by rw [sm_wI_nj (by omega)]; exact h2 j (by omega) hj2)
    refine ⟨w1, ?_, a2, fun a ha => by rw [a3 a ha, sm_wI_ne ha], by rw [a4]; rfl⟩
    rw [ff_wy_spreadReach_15_f]
    unfold ff_wy_spreadReach_15_b
    simp (disch := omega) only [u32_lit, al_reach, bs_, u32_le, if_neg, sm_rd_u, e1]
    rw [clr_u hs hk, sm_rd_u hc (by omega), bs_, e2, e3, sm_wr_u hs (by omega), bs_, u32_add]
    exact a1
theorem spread_out {V : List (List Nat)} {n : Nat} (hn : n ≤ 6) (hV : ∀ s m, reachV V s = some m → m ≤ 5) : ∀ (m k F : Nat) (w : sm_Mem), k + m = n → m < F → w.1 36 0 = u32 n → (∀ j, j < 64 → w.1 54 j = oAns (spr V k j)) → ∃ w1, ff_wy_spreadReach_2_f F (u32 k) w = some (.null, w1) ∧ (∀ j, j < 64 → w1.1 54 j = oAns (spr V n j)) ∧ (∀ a, a ≠ 54 → w1.1 a = w.1 a) ∧ w1.2 = w.2 := by
  intro m
  induction m with
  | zero =>
    intro k F w hm hF hw h
    obtain ⟨F, rfl⟩ : ∃ G, F = G + 1 := ⟨F - 1, by omega⟩
    have : k = n := by omega
    subst this
    refine ⟨w, ?_, h, fun _ _ => rfl, rfl⟩
    rw [ff_wy_spreadReach_2_f]
    unfold ff_wy_spreadReach_2_b
    simp (disch := omega) only [u32_lit, hw, u32_le, if_pos]
  | succ m ih =>
    intro k F w hm hF hw h
    obtain ⟨F, rfl⟩ : ∃ G, F = G + 1 := ⟨F - 1, by omega⟩
    obtain ⟨w1, a1, a2, a3, a4⟩ := spread_in (V := V) (self := ff_wy_spreadReach_2_f F) (show k < 6 by omega) hV 64 0 1000000 w (by omega) (by omega) (fun j hj => absurd hj (Nat.not_lt_zero _)) (fun j _ hj => h j hj)
    obtain ⟨w2, b1, b2, b3, b4⟩ := ih (k + 1) F w1 (by omega) (by omega) (by rw [a3 36 (by decide)]; exact hw) a2
    refine ⟨w2, ?_, b2, fun a ha => by rw [b3 a ha, a3 a ha], by rw [b4, a4]⟩
    rw [ff_wy_spreadReach_2_f]
    unfold ff_wy_spreadReach_2_b
    simp (disch := omega) only [u32_lit, hw, u32_le, if_neg]
    unfold ff_wy_spreadReach_15
    rw [sm_N_eq, a1]
    exact b1
theorem wy_weightOf {n p s : Nat} {w : sm_Mem} (hn : n ≤ 6) (hp : p ≤ 12) (hs : s < 64) (hw : w.1 36 0 = u32 n) : ff_wy_weightOf (u32 s) (u32 p) w = some (.long (u64 (wgt n p s)), w) := by
  have loop : ∀ (m i F a : Nat), i + m = n → m < F → ff_wy_weightOf_5_f F (u32 s) (u32 p) (u64 a) (u32 i) w = some (.long (u64 (prodN (fun i => if s.testBit i = true then 12 - p else p) i m a)), w) := by
    intro m
    induction m with
    | zero =>
      intro i F a hm hF
      obtain ⟨F, rfl⟩ : ∃ G, F = G + 1 := ⟨F - 1, by omega⟩
      rw [ff_wy_weightOf_5_f]
      unfold ff_wy_weightOf_5_b
      simp (disch := omega) only [hw, u32_le, if_pos, prodN]
    | succ m ih =>
      intro i F a hm hF
      obtain ⟨F, rfl⟩ : ∃ G, F = G + 1 := ⟨F - 1, by omega⟩
      rw [ff_wy_weightOf_5_f, prodN]
      unfold ff_wy_weightOf_5_b ff_wy_weightOf_37
      simp (disch := omega) only [u32_lit, hw, u32_le, if_neg, u32_bit hs (show i < 6 by omega), u32_bool_eq0, u32_sub, u32_64, u64_mul, u32_add]
      cases hb : s.testBit i with
      | true =>
        rw [if_neg (by decide), if_pos rfl]
        exact ih (i + 1) F _ (by omega) (by omega)
      | false =>
        rw [if_pos rfl, if_neg (by decide)]
        exact ih (i + 1) F _ (by omega) (by omega)
  unfold ff_wy_weightOf ff_wy_weightOf_5
  rw [sm_N_eq]
  exact loop n 0 1000000 1 (by omega) (by omega)
theorem wy_weightOfAny {n : Nat} {w : sm_Mem} (hn : n ≤ 6) (hw : w.1 36 0 = u32 n) : ff_wy_weightOfAny w = some (.long (u64 (12 ^ n)), w) := by
  have loop : ∀ (m i F a : Nat), i + m = n → m < F → ff_wy_weightOfAny_4_f F (u64 a) (u32 i) w = some (.long (u64 (a * 12 ^ m)), w) := by
    intro m
    induction m with
    | zero =>
      intro i F a hm hF
      obtain ⟨F, rfl⟩ : ∃ G, F = G + 1 := ⟨F - 1, by omega⟩
      rw [ff_wy_weightOfAny_4_f]
      unfold ff_wy_weightOfAny_4_b
      simp (disch := omega) only [hw, u32_le, if_pos, Nat.pow_zero, Nat.mul_one]
    | succ m ih =>
      intro i F a hm hF
      obtain ⟨F, rfl⟩ : ∃ G, F = G + 1 := ⟨F - 1, by omega⟩
      rw [ff_wy_weightOfAny_4_f]
      unfold ff_wy_weightOfAny_4_b
      simp (disch := omega) only [u32_lit, u64_lit, hw, u32_le, if_neg, u64_mul, u32_add]
      rw [ih (i + 1) F _ (by omega) (by omega), Nat.pow_succ, Nat.mul_assoc, Nat.mul_comm 12]
  unfold ff_wy_weightOfAny ff_wy_weightOfAny_4
  rw [sm_N_eq]
  have := loop n 0 1000000 1 (by omega) (by omega)
  rw [Nat.one_mul] at this
  exact this
theorem all_u {n : Nat} (hn : n ≤ 6) : (u32 1 <<< (u32 n &&& u32 31)) - u32 1 = u32 (2 ^ n - 1) ∧ (u32 1 <<< (u32 n &&& u32 31)) = u32 (2 ^ n) := by
  have key : ∀ n, n < 7 → (u32 1 <<< (u32 n &&& u32 31)) - u32 1 = u32 (2 ^ n - 1) ∧ (u32 1 <<< (u32 n &&& u32 31)) = u32 (2 ^ n) := by decide +kernel
  exact key n (by omega)
def gainV (fl n p : Nat) (gs : List Gl) (H : HV) (s : Nat) : Nat := if fl = 1 then (if farL (comp n s) gs H 0 gs.length = gs.length then wgt n p s else 0) else farL (comp n s) gs H 0 gs.length * wgt n p s
theorem pow_n {n : Nat} (hn : n ≤ 6) : 0 < 2 ^ n ∧ 2 ^ n ≤ 64 ∧ 0 < 12 ^ n ∧ 12 ^ n ≤ 2985984 := by
  have key : ∀ n, n < 7 → 0 < 2 ^ n ∧ 2 ^ n ≤ 64 ∧ 0 < 12 ^ n ∧ 12 ^ n ≤ 2985984 := by decide
  exact key n (by omega)
theorem wy_full_loop {n p : Nat} {gs : List Gl} {H : HV} {w : sm_Mem} (hn : n ≤ 6) (hp : p ≤ 12) (h5 : gs.length ≤ 5) (hw : w.1 36 0 = u32 n) (hL : w.1 49 3 = u32 gs.length) (hc : ∀ s, s < 2 ^ n → w.1 54 s = u32 (farL (comp n s) gs H 0 gs.length)) : ∀ (m s F : Nat), s + m = 2 ^ n → m < F → ff_wy_weightOfFull_9_f F (u32 p) (u64 (sumN (gainV 1 n p gs H) s)) (u32 s) w = some (.long (u64 (sumN (gainV 1 n p gs H) (2 ^ n))), w) := by
  obtain ⟨q1, q2, -, -⟩ := pow_n hn
  intro m
  induction m with
  | zero =>
    intro s F hm hF
    obtain ⟨F, rfl⟩ : ∃ G, F = G + 1 := ⟨F - 1, by omega⟩
    have : s = 2 ^ n := by omega
    subst this
    rw [ff_wy_weightOfFull_9_f]
    unfold ff_wy_weightOfFull_9_b ff_hs_allSpeakers
    simp (disch := omega) only [u32_lit, cI_, hw, (all_u hn).1, u32_lt, if_pos]
  | succ m ih =>
    intro s F hm hF
    obtain ⟨F, rfl⟩ : ∃ G, F = G + 1 := ⟨F - 1, by omega⟩
    have hs : s < 2 ^ n := by omega
    have hfl := (farL_le (sil := comp n s) (gs := gs) (H := H) gs.length 0).2
    have ih := ih (s + 1) F (by omega) (by omega)
    rw [sumN, gainV, if_pos rfl] at ih
    rw [ff_wy_weightOfFull_9_f]
    unfold ff_wy_weightOfFull_9_b ff_hs_allSpeakers
    simp (disch := omega) only [u32_lit, cI_, hw, (all_u hn).1, u32_lt, if_neg, sm_rd_u, bs_, hc s hs, hL, u32_eq, wy_weightOf hn hp (show s < 64 by omega) hw, cL_, u64_add, u32_add]
    by_cases e : farL (comp n s) gs H 0 gs.length = gs.length
    · rw [if_pos e] at ih ⊢
      exact ih
    · rw [if_neg e] at ih ⊢
      exact ih
theorem wy_words_sum {n p : Nat} {gs : List Gl} {H : HV} {w : sm_Mem} (hn : n ≤ 6) (hp : p ≤ 12) (h5 : gs.length ≤ 5) (hw : w.1 36 0 = u32 n) (hc : ∀ s, s < 2 ^ n → w.1 54 s = u32 (farL (comp n s) gs H 0 gs.length)) : ∀ (m s F : Nat), s + m = 2 ^ n → m < F → ff_wy_weightOfWords_9_f F (u32 p) (u64 (sumN (gainV 0 n p gs H) s)) (u32 s) w = some (.long (u64 (sumN (gainV 0 n p gs H) (2 ^ n))), w) := by
  obtain ⟨q1, q2, -, -⟩ := pow_n hn
  intro m
  induction m with
  | zero =>
    intro s F hm hF
    obtain ⟨F, rfl⟩ : ∃ G, F = G + 1 := ⟨F - 1, by omega⟩
    have : s = 2 ^ n := by omega
    subst this
    rw [ff_wy_weightOfWords_9_f]
    unfold ff_wy_weightOfWords_9_b ff_hs_allSpeakers
    simp (disch := omega) only [u32_lit, cI_, hw, (all_u hn).1, u32_lt, if_pos]
  | succ m ih =>
    intro s F hm hF
    obtain ⟨F, rfl⟩ : ∃ G, F = G + 1 := ⟨F - 1, by omega⟩
    have hs : s < 2 ^ n := by omega
    have hfl := (farL_le (sil := comp n s) (gs := gs) (H := H) gs.length 0).2
    have ih := ih (s + 1) F (by omega) (by omega)
    rw [sumN, gainV, if_neg (by decide)] at ih
    rw [ff_wy_weightOfWords_9_f]
    unfold ff_wy_weightOfWords_9_b ff_hs_allSpeakers
    simp (disch := omega) only [u32_lit, cI_, hw, (all_u hn).1, u32_lt, if_neg, sm_rd_u, bs_, hc s hs, wy_weightOf hn hp (show s < 64 by omega) hw, cL_, u32_64, u64_mul, u64_add, u32_add]
    exact ih
/-- the class's sums -/
theorem wy_spread {n : Nat} {gs : List Gl} {H : HV} {w : sm_Mem} (hn : n = hN H) (h6 : n ≤ 6) (hw : w.1 36 0 = u32 n) (hA : AccD w (tre 0 gs H)) : ∃ w1, ff_wy_spreadReach w = some (.null, w1) ∧ (∀ s, s < 2 ^ n → w1.1 54 s = u32 (farL (comp n s) gs H 0 gs.length)) ∧ (∀ a, a ≠ 54 → w1.1 a = w.1 a) ∧ w1.2 = w.2 := by
  obtain ⟨w1, a1, a2, a3, a4⟩ := spread_out h6 hA.2 n 0 1000000 w (by omega) (by omega) hw (fun j hj => hA.1.2 j hj)
  have q2 := (pow_n h6).2.1
  refine ⟨w1, ?_, fun s hs => by rw [a2 s (by omega), spr_far hn h6 hs]; rfl, a3, a4⟩
  unfold ff_wy_spreadReach ff_wy_spreadReach_2
  rw [sm_N_eq]
  exact a1
theorem comp_comp {n s : Nat} (hs : s < 2 ^ n) : comp n (comp n s) = s := by
  unfold comp
  omega
/-! the reference -/
theorem mo_silent_in {self : Int32 → Int32 → Int32 → Int64 → Int64 → Int32 → sm_Mem → sm_R} {n p fl L sil : Nat} {a6 a8 : Int64} {w : sm_Mem} (hn : n ≤ 6) (hp : p ≤ 12) (hs : sil < 64) (hw : w.1 62 1 = u32 n) : ∀ (m i F a : Nat), i + m = n → ff_mo_tellSilent_48_f self (F + 1 + m) (u32 p) (u32 fl) (u32 L) a6 a8 (u32 sil) (u64 a) (u32 i) w = ff_mo_tellSilent_48_f self (F + 1) (u32 p) (u32 fl) (u32 L) a6 a8 (u32 sil) (u64 (prodN (fun i => if sil.testBit i = true then p else 12 - p) i m a)) (u32 n) w := by
  intro m
  induction m with
  | zero =>
    intro i F a hm
    rw [prodN, show i = n by omega]
  | succ m ih =>
    intro i F a hm
    rw [prodN, ← ih (i + 1) F _ (by omega), show F + 1 + (m + 1) = (F + 1 + m) + 1 by omega, ff_mo_tellSilent_48_f]
    unfold ff_mo_tellSilent_48_b ff_mo_tellSilent_79
    simp (disch := omega) only [u32_lit, hw, u32_le, if_neg, mo_has hs (show i < 6 by omega), cI_, u32_bool_eq0, u32_sub, u32_64, u64_mul, u32_add]
    cases hb : sil.testBit i with
    | true => rw [if_neg (by decide), if_pos rfl]
    | false => rw [if_pos rfl, if_neg (by decide)]
def SilI (w : sm_Mem) (gs : List Gl) (H : HV) : Prop := ∀ sil, sil < 64 → Srch (sm_wI (sm_wI w 62 23 (u32 sil)) 62 21 (u32 gs.length)) gs H sil
theorem SilI.fr {w w1 : sm_Mem} {gs : List Gl} {H : HV} (h : SilI w gs H) (h62 : ∀ j, (j = 1 ∨ j = 22 ∨ j = 24) → w1.1 62 j = w.1 62 j) (ha : ∀ a, (63 ≤ a ∧ a < 66) ∨ a = 73 ∨ a = 74 → w1.1 a = w.1 a) : SilI w1 gs H := by
  intro sil hs
  refine (h sil hs).fr (fun j hj => ?_) (fun a hb => by rw [sm_wI_ne (by omega), sm_wI_ne (by omega), sm_wI_ne (by omega), sm_wI_ne (by omega)]; exact ha a hb)
  by_cases e : j = 21
  · subst e; rw [sm_wI_eq, sm_wI_eq]
  · rw [sm_wI_nj e, sm_wI_nj e]
    by_cases e2 : j = 23
    · subst e2; rw [sm_wI_eq, sm_wI_eq]
    · rw [sm_wI_nj e2, sm_wI_nj e2]; exact h62 j (by omega)
theorem SilI.of {w : sm_Mem} {gs : List Gl} {H : HV} (h : Srch w gs H 0) : SilI w gs H := by
  intro sil hs
  obtain ⟨h1, h2, h3, h4, h5, h6, h7, h8⟩ := h
  refine ⟨h1, sm_wI_eq, by rw [sm_wI_nj (by decide), sm_wI_nj (by decide)]; exact h3, by rw [sm_wI_nj (by decide), sm_wI_eq], hs, h6, by rw [sm_wI_ne (by decide), sm_wI_ne (by decide), sm_wI_ne (by decide), sm_wI_ne (by decide)]; exact h7, MSe_fr (by rw [sm_wI_nj (by decide), sm_wI_nj (by decide)]) (by rw [sm_wI_nj (by decide), sm_wI_nj (by decide)]) (by rw [sm_wI_ne (by decide), sm_wI_ne (by decide)]) (by rw [sm_wI_ne (by decide), sm_wI_ne (by decide)]) (by rw [sm_wI_ne (by decide), sm_wI_ne (by decide)]) h8 h6⟩
theorem mo_silent_loop {n p fl : Nat} {gs : List Gl} {H : HV} (hn : n ≤ 6) (hp : p ≤ 12) (h5 : gs.length ≤ 5) (hfl : fl = 0 ∨ fl = 1) : ∀ (m sil F : Nat) (w : sm_Mem), sil + m = 2 ^ n → m < F → w.1 62 1 = u32 n → SilI w gs H → ∃ w1, ff_mo_tellSilent_31_f F (u32 p) (u32 fl) (u32 gs.length) (u64 (sumN (fun s => gainV fl n p gs H (2 ^ n - 1 - s)) sil)) (u64 (sumN (fun s => wgt n p (2 ^ n - 1 - s)) sil)) (u32 sil) w = (sm_cI (ff_mo_tellParts (u64 (sumN (fun s => gainV fl n p gs H (2 ^ n - 1 - s)) (2 ^ n))) (u64 (sumN (fun s => wgt n p (2 ^ n - 1 - s)) (2 ^ n))) w1) fun x7 w8 => some (.int x7, w8)) ∧ MFr w w1 ∧ w1.1 62 9 = w.1 62 9 ∧ w1.2 = w.2 := by
  obtain ⟨q1, q2, -, -⟩ := pow_n hn
  intro m
  induction m with
  | zero =>
    intro sil F w hm hF hw hS
    obtain ⟨F, rfl⟩ : ∃ G, F = G + 1 := ⟨F - 1, by omega⟩
    have : sil = 2 ^ n := by omega
    subst this
    refine ⟨w, ?_, MFr.refl, rfl, rfl⟩
    rw [ff_mo_tellSilent_31_f]
    unfold ff_mo_tellSilent_31_b
    simp (disch := omega) only [u32_lit, hw, (all_u hn).2, u32_le, if_pos]
  | succ m ih =>
    intro sil F w hm hF hw hS
    obtain ⟨F, rfl⟩ : ∃ G, F = G + 1 := ⟨F - 1, by omega⟩
    have hs : sil < 2 ^ n := by omega
    have hs64 : sil < 64 := by omega
    obtain ⟨w1, a1, a2, a3⟩ := mo_farGoal (hS sil hs64)
    have hfl2 := (farL_le (sil := sil) (gs := gs) (H := H) gs.length 0).2
    have hf1 : MFr w w1 := ((MFr.s (j := 23) (by omega)).trans (MFr.s (j := 21) (by omega))).trans (MFr.g a2)
    have h621 : w1.1 62 1 = u32 n := by rw [hf1.2.1]; exact hw
    have h629 : w1.1 62 9 = w.1 62 9 := by rw [a2.2.1 9 (by decide) (by decide), sm_wI_nj (by decide), sm_wI_nj (by decide)]
    have hS1 : SilI w1 gs H := hS.fr (fun j hj => by rw [a2.2.1 j (by omega) (by omega), sm_wI_nj (by omega), sm_wI_nj (by omega)]) (fun a ha => by rw [a2.1 a (by omega) (by omega) (by omega), sm_wI_ne (by omega), sm_wI_ne (by omega)])
    obtain ⟨w2, b1, b2, b3, b4⟩ := ih (sil + 1) F w1 (by omega) (by omega) h621 hS1
    refine ⟨w2, ?_, hf1.trans b2, by rw [b3, h629], by rw [b4, a2.2.2]; rfl⟩
    rw [← b1, ff_mo_tellSilent_31_f]
    unfold ff_mo_tellSilent_31_b
    simp (disch := omega) only [u32_lit, u64_lit, hw, (all_u hn).2, u32_le, if_neg]
    unfold ff_mo_tellSilent_48
    have hin := mo_silent_in (self := ff_mo_tellSilent_31_f F) (fl := fl) (L := gs.length) (a6 := u64 (sumN (fun s => gainV fl n p gs H (2 ^ n - 1 - s)) sil)) (a8 := u64 (sumN (fun s => wgt n p (2 ^ n - 1 - s)) sil)) hn hp hs64 hw n 0 (999999 - n) 1 (by omega)
    rw [show 999999 - n + 1 + n = 1000000 by omega] at hin
    have ew : prodN (fun i => if sil.testBit i = true then p else 12 - p) 0 n 1 = wgt n p (2 ^ n - 1 - sil) := by
      unfold wgt
      refine prodN_congr _ _ _ (fun i _ hi => ?_)
      have := comp_bit (i := i) hn hs (by omega)
      unfold comp at this
      rw [this]
      cases sil.testBit i <;> rfl
    rw [sm_N_eq, hin, ew, ff_mo_tellSilent_48_f]
    unfold ff_mo_tellSilent_48_b ff_mo_tellSilent_134
    simp (disch := omega) only [u32_lit, u64_lit, hw, u32_le, Nat.le_refl, if_true, let_, a1, cI_, u32_eq, u32_64, u64_mul, u64_add, u32_add]
    have eg : gainV fl n p gs H (2 ^ n - 1 - sil) = if fl = 1 then (if farL sil gs H 0 gs.length = gs.length then wgt n p (2 ^ n - 1 - sil) else 0) else farL sil gs H 0 gs.length * wgt n p (2 ^ n - 1 - sil) := by
      unfold gainV
      have : comp n (2 ^ n - 1 - sil) = sil := comp_comp hs
      rw [this]
    rw [sumN, sumN, eg]
    rcases hfl with rfl | rfl
    · rw [if_pos rfl, if_neg (by decide), Nat.mul_comm]
    · rw [if_neg (by decide), if_pos rfl]
      by_cases e : farL sil gs H 0 gs.length = gs.length
      · rw [if_pos e, if_pos e]
      · rw [if_neg e, if_neg e]
theorem mo_tellSilent {r n p fl : Nat} {w w1 : sm_Mem} {gs : List Gl} {H : HV} (hn : n ≤ 6) (hp : p ≤ 12) (hfl : fl = 0 ∨ fl = 1) (h1 : ff_mo_noGoal (u32 r) (u32 1) w = some (.int (u32 0), w1)) (hS : Srch w1 gs H 0) (hw : w1.1 62 1 = u32 n) : ∃ w2, ff_mo_tellSilent (u32 r) (u32 p) (u32 fl) w = some (.int (u32 1), sm_wL (sm_wL w2 62 10 (u64 (sumN (gainV fl n p gs H) (2 ^ n) / Nat.gcd (sumN (gainV fl n p gs H) (2 ^ n)) (12 ^ n)))) 62 11 (u64 (12 ^ n / Nat.gcd (sumN (gainV fl n p gs H) (2 ^ n)) (12 ^ n)))) ∧ MFr w1 w2 ∧ w2.1 62 9 = w1.1 62 9 ∧ w2.2 = w1.2 ∧ sumN (gainV fl n p gs H) (2 ^ n) < 2147483648 := by
  obtain ⟨q1, q2, q3, q4⟩ := pow_n hn
  have h5 := hS.1
  obtain ⟨w2, a1, a2, a3, a4⟩ := mo_silent_loop (p := p) hn hp h5 hfl (2 ^ n) 0 1000000 w1 (by omega) (by omega) hw (SilI.of hS)
  have e1 : sumN (fun s => gainV fl n p gs H (2 ^ n - 1 - s)) (2 ^ n) = sumN (gainV fl n p gs H) (2 ^ n) := sumN_rev _ _
  have e2 : sumN (fun s => wgt n p (2 ^ n - 1 - s)) (2 ^ n) = 12 ^ n := (sumN_rev _ _).trans (wgt_all hn hp)
  have hb : sumN (gainV fl n p gs H) (2 ^ n) ≤ 5 * 12 ^ n := by
    rw [← wgt_all hn hp]
    refine sumN_le _ (fun s _ => ?_)
    have hfl2 := (farL_le (sil := comp n s) (gs := gs) (H := H) gs.length 0).2
    unfold gainV
    split
    · split
      · omega
      · exact Nat.zero_le _
    · exact Nat.mul_le_mul_right _ (by omega)
  rw [e1, e2] at a1
  refine ⟨w2, ?_, a2, a3, a4, by omega⟩
  have hgd := mo_tellParts (w := w2) (show sumN (gainV fl n p gs H) (2 ^ n) < 2147483648 by omega) (show 12 ^ n < 2147483648 by omega) q3
  rw [hgd, cI_] at a1
  unfold ff_mo_tellSilent
  rw [u32_lit, u32_lit, h1, cI_, if_pos rfl, hS.2.1]
  unfold ff_mo_tellSilent_31
  rw [sm_N_eq]
  exact a1
/-- odds (1) and mid (0), alike but for what is summed up -/
theorem silent_both {fl : Nat} {cf mf : Int32 → Int32 → sm_Mem → sm_R} {wf : Int32 → sm_Mem → sm_R} (hfl : fl = 0 ∨ fl = 1) (hcf : ∀ a1 a2 w, cf a1 a2 w = (if a2 < u32 0 then (some (.int (-u32 1), w)) else (if a2 ≤ u32 12 then (sm_cI (ff_ho_refusalOfWords a1 (u32 5) w) fun x1 w2 => (if x1 = u32 0 then (Option.bind (sm_rr 1 a1) fun r3 => (sm_cV (ff_wy_runWords r3 (-u32 9) w2) fun w5 => (sm_cL (wf a2 w5) fun x6 w7 => (sm_cL (ff_wy_weightOfAny w7) fun x8 w9 => (sm_cV (ff_td_share x6 x8 w9) fun w11 => (some (.int (u32 1), w11))))))) else (some (.int x1, w2)))) else (some (.int (-u32 1), w))))) (hmf : ∀ a1 a2 w, mf a1 a2 w = (sm_cI (ff_mo_isRow a1 w) fun x1 w2 => (if x1 = u32 0 then (some (.int (-u32 1), w2)) else (sm_cI (ff_mo_in (Int32.toInt64 a2) 0 12 w2) fun x3 w4 => (if x3 = u32 0 then (some (.int (-u32 1), w4)) else (sm_cI (ff_mo_tellSilent a1 a2 (u32 fl) w4) fun x5 w6 => (some (.int x5, w6)))))))) (hwf : ∀ {n p : Nat} {gs : List Gl} {H : HV} {w : sm_Mem}, n = hN H → n ≤ 6 → p ≤ 12 → gs.length ≤ 5 → w.1 36 0 = u32 n → w.1 49 3 = u32 gs.length → AccD w (tre 0 gs H) → ∃ w1, wf (u32 p) w = some (.long (u64 (sumN (gainV fl n p gs H) (2 ^ n))), w1) ∧ (∀ a, a ≠ 54 → w1.1 a = w.1 a) ∧ w1.2 = w.2) {r p : Int32} {w : sm_Mem} (h : R w) : Both (cf r p) (mf r p) R w := by
  obtain ⟨hc, B, ds, hh⟩ := id h
  obtain ⟨hok, hn, n1, n2, n6⟩ := hh.n
  have in_bad : ∀ {x : Int32} {w0 : sm_Mem}, aBad x 13 → ff_mo_in x.toInt64 0 12 w0 = some (.int (u32 0), w0) := fun hb => mo_in_bad hb rfl
  have in_good : ∀ {k : Nat} {w0 : sm_Mem}, k < 13 → ff_mo_in (u32 k).toInt64 0 12 w0 = some (.int (u32 1), w0) := fun hb => mo_in_good hb (by decide) rfl
  rcases aCases p 13 with hp | ⟨p, hp, -, rfl⟩
  · refine BothR_same h (-u32 1) ?_ ?_
    · rw [hcf]
      rcases hp with hp | ⟨k, hk, hk2, rfl⟩
      · rw [if_pos hp]
      · simp (disch := omega) only [u32_lt, if_neg, u32_le]
    · rw [hmf]
      rcases aCases r 6 with hr | ⟨r, hr, -, rfl⟩
      · rw [mo_isRow_bad hr, cI_, if_pos rfl]
      · rw [mo_isRow_good hr, cI_, if_neg (by decide), in_bad hp, cI_, if_pos rfl]
  have hp12 : p ≤ 12 := by omega
  have cpre : ∀ a1, cf a1 (u32 p) w = (sm_cI (ff_ho_refusalOfWords a1 (u32 5) w) fun x1 w2 => (if x1 = u32 0 then (Option.bind (sm_rr 1 a1) fun r3 => (sm_cV (ff_wy_runWords r3 (-u32 9) w2) fun w5 => (sm_cL (wf (u32 p) w5) fun x6 w7 => (sm_cL (ff_wy_weightOfAny w7) fun x8 w9 => (sm_cV (ff_td_share x6 x8 w9) fun w11 => (some (.int (u32 1), w11))))))) else (some (.int x1, w2)))) := fun a1 => by
    rw [hcf]
    simp (disch := omega) only [u32_lt, if_neg, u32_le, if_pos]
  rcases aCases r 6 with hr | ⟨r, hr, -, rfl⟩
  · refine BothR_same h (-u32 1) ?_ ?_
    · rw [cpre]
      unfold ff_ho_refusalOfWords
      simp (disch := omega) only [u32_lit, let_, bs_, cI_, cV_, cL_, sm_rd_u, sm_wr_u, u32_add, u32_mul, u32_sub, u32_le, u32_lt, u32_eq, u32_eq_neg, u32_neg_eq, u32_neg_neg, u32_le_neg, u32_neg_lt, u32_lt_neg, u32_neg_le, u10, u01, u3n0, u1n0, u4n0, n9_lt, n1_lt, n9_neg, n1_neg, if_true, if_false, if_pos, if_neg, ne_eq, not_true_eq_false, not_false_eq_true, ho_within_bad hr]
    · rw [hmf, mo_isRow_bad hr, cI_, if_pos rfl]
  have mpre : ∀ w0, mf (u32 r) (u32 p) w0 = (sm_cI (ff_mo_tellSilent (u32 r) (u32 p) (u32 fl) w0) fun x5 w6 => (some (.int x5, w6))) := fun w0 => by
    rw [hmf, mo_isRow_good hr, cI_, if_neg (by decide), in_good hp, cI_, if_neg (by decide)]
  rcases BothR_goal (ca := cf (u32 r) (u32 p)) (ma := mf (u32 r) (u32 p)) h (fun v w1 e hv => by
    rw [cpre, e, cI_, if_neg hv]) (fun w0 v w1 e hv _ => by
    rw [mpre]
    unfold ff_mo_tellSilent
    rw [u32_lit, u32_lit, e, cI_, if_neg hv, cI_]) (goal_words hc hh hr) with ⟨gs, g5, gc, gsz, gat, gm⟩ | hb
  · obtain ⟨w1, a1, a2, a3, a4, a5, a6⟩ := words_run hr g5 gsz gat hh.2.2.2.2.2.1.1 hok
    obtain ⟨q1, q2, q3, q4⟩ := pow_n n6
    have e36 : w1.1 36 0 = u32 B.1 := by rw [a6.2.1 0 (by decide)]; exact n1
    obtain ⟨w2, b1, b2, b3⟩ := hwf (p := p) hn.symm n6 hp12 g5 e36 a5.2.2.1 a3
    have e36' : w2.1 36 0 = u32 B.1 := by rw [b2 36 (by decide)]; exact e36
    let A := sumN (gainV fl B.1 p gs (playV B ds).1) (2 ^ B.1)
    let w3 := sm_wL (sm_wL w2 60 1 (u64 (A / Nat.gcd A (12 ^ B.1)))) 60 2 (u64 (12 ^ B.1 / Nat.gcd A (12 ^ B.1)))
    have hx : XFr w w3 := (((XFr.of a6).trans ⟨fun a ha => b2 a (by omega), fun j hj => by rw [b2 36 (by decide)], by rw [b2 60 (by decide)]⟩).trans XFr.long).trans XFr.long
    obtain ⟨w4, c1, c2, c3⟩ := gm w3 (fun a h1 h2 => hx.1 a (by omega))
    have e4 : w4.1 62 1 = u32 B.1 := by rw [c3.2.1 1 (by decide) (by decide) (by decide), hx.1 62 (by omega)]; exact n2
    obtain ⟨w5, d1, d2, d3, d4, d5⟩ := mo_tellSilent (p := p) n6 hp12 hfl c1 c2 e4
    have hclass : cf (u32 r) (u32 p) w = some (.int (u32 1), w3) := by
      rw [cpre, gc, cI_, if_pos rfl, rr_row hr, bs_, a1, cV_, b1, cL_, wy_weightOfAny n6 e36', cL_, td_share d5 (by omega) q3, cV_]
    have hmodel : mf (u32 r) (u32 p) w3 = some (.int (u32 1), sm_wL (sm_wL w5 62 10 (u64 (A / Nat.gcd A (12 ^ B.1)))) 62 11 (u64 (12 ^ B.1 / Nat.gcd A (12 ^ B.1)))) := by
      rw [mpre, d1, cI_]
    have l5 : w5.2 = w3.2 := by rw [d4, c3.2.2]
    refine Both_mk _ _ _ hclass hmodel (R_done hc hh hx ?_ ((((MFr.l c3).trans d2).trans MFr.long).trans MFr.long) ?_ ?_ ?_)
    · exact CH_fr (fun a h1 h2 => by show w2.1 a = _; exact b2 a (by omega)) a2
    · show w2.1 60 0 = w5.1 62 9
      rw [b2 60 (by decide), a6.1 60 (by omega), d3, c3.2.1 9 (by decide) (by decide) (by decide), hx.1 62 (by omega)]
      exact hc.2.2.1
    · rw [sm_wL_at, if_neg (by decide), sm_wL_at, if_neg (by decide), l5, sm_wL_at, if_neg (by decide), sm_wL_at, if_pos ⟨rfl, rfl⟩]
      rfl
    · rw [sm_wL_at, if_neg (by decide), sm_wL_at, if_neg (by decide), l5, sm_wL_at, if_pos ⟨rfl, rfl⟩]
      rfl
  · exact hb
theorem op_odds {r p : Int32} {w : sm_Mem} (h : R w) : Both (ff_ho_odds r p) (ff_mo_odds r p) R w := by
  refine silent_both (fl := 1) (wf := ff_wy_weightOfFull) (Or.inr rfl) (fun a1 a2 w => ?_) (fun a1 a2 w => ?_) (fun hn h6 hp h5 hw hL hA => ?_) h
  · unfold ff_ho_odds
    rfl
  · unfold ff_mo_odds
    rfl
  · obtain ⟨w1, a1, a2, a3, a4⟩ := wy_spread hn h6 hw hA
    refine ⟨w1, ?_, a3, a4⟩
    unfold ff_wy_weightOfFull ff_wy_weightOfFull_9
    rw [a1, cV_, sm_N_eq]
    exact wy_full_loop h6 hp h5 (by rw [a3 36 (by decide)]; exact hw) (by rw [a3 49 (by decide)]; exact hL) a2 _ 0 1000000 (Nat.zero_add _) (by have := (pow_n h6).2.1; omega)
theorem op_mid {r p : Int32} {w : sm_Mem} (h : R w) : Both (ff_ho_mid r p) (ff_mo_mid r p) R w := by
  refine silent_both (fl := 0) (wf := ff_wy_weightOfWords) (Or.inl rfl) (fun a1 a2 w => ?_) (fun a1 a2 w => ?_) (fun hn h6 hp h5 hw hL hA => ?_) h
  · unfold ff_ho_mid
    rfl
  · unfold ff_mo_mid
    rfl
  · obtain ⟨w1, a1, a2, a3, a4⟩ := wy_spread hn h6 hw hA
    refine ⟨w1, ?_, a3, a4⟩
    unfold ff_wy_weightOfWords ff_wy_weightOfWords_9
    rw [a1, cV_, sm_N_eq]
    exact wy_words_sum h6 hp h5 (by rw [a3 36 (by decide)]; exact hw) a2 _ 0 1000000 (Nat.zero_add _) (by have := (pow_n h6).2.1; omega)
