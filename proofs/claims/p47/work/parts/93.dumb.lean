/-! pure: rows that none can say -/
def TW (w : sm_Mem) (d : Nat) (gs : List Gl) : Prop := ∀ j g, gs[j]? = some g → w.1 57 (d + j) = u32 g.1 ∧ g.2 = none ∧ g.1 < 6
theorem TW.fr {w w1 : sm_Mem} {d : Nat} {gs : List Gl} (h : TW w d gs) (h57 : w1.1 57 = w.1 57) : TW w1 d gs := fun j g hj => by rw [h57]; exact h j g hj
theorem SFr.hi {w w1 : sm_Mem} (h : SFr w w1) {a : Nat} (ha : 44 < a) : w1.1 a = w.1 a := h.1.1 a (by omega)
theorem empty_app {α : Type} (a b : List α) : (!(a ++ b).isEmpty) = (!a.isEmpty || !b.isEmpty) := by
  cases a <;> simp
theorem empty_map {α β : Type} (f : α → β) (a : List α) : (a.map f).isEmpty = a.isEmpty := by
  cases a <;> rfl
theorem tr_hasWay : ∀ (gs : List Gl) (k d n : Nat) (H : HV) (w : sm_Mem), gs.length < k → d + gs.length = n → n ≤ 4 → TW w d gs → CH w H → HOk H → ∃ w1, ff_tr_hasWay k (u32 d) (u32 n) w = some (.int (u32 (!(wys 0 gs H).isEmpty).toNat), w1) ∧ CH w1 H ∧ SFr w w1 := by
  intro gs
  induction gs with
  | nil =>
    intro k d n H w hk hd hn ht hC hok
    obtain ⟨k, rfl⟩ : ∃ G, k = G + 1 := ⟨k - 1, by rw [List.length_nil] at hk; omega⟩
    rw [List.length_nil] at hd
    refine ⟨w, ?_, hC, SFr.refl⟩
    rw [ff_tr_hasWay]
    unfold ff_tr_hasWay_0
    simp (disch := omega) only [u32_lit, u32_lt, if_neg]
    rfl
  | cons g gs ih =>
    intro k d n H w hk hd hn ht hC hok
    rw [List.length_cons] at hk hd
    obtain ⟨k, rfl⟩ : ∃ G, k = G + 1 := ⟨k - 1, by omega⟩
    have h6 := hok.1
    have ht0 := ht 0 g rfl
    rw [Nat.add_zero] at ht0
    obtain ⟨t1, t2, t3⟩ := ht0
    have hst : ∀ i, stepV 0 H i g = canV H i g.1 := fun i => by
      rw [stepV_0]
      unfold roomV
      rw [t2]
      rfl
    have loop : ∀ (m i F : Nat) (w0 : sm_Mem), i + m = hN H → m < F → CH w0 H → w0.1 57 = w.1 57 → ∃ w1, ff_tr_hasWay_9_f (ff_tr_hasWay k) F (u32 d) (u32 n) (u32 i) w0 = some (.int (u32 (!(lpF (fun i => if stepV 0 H i g = true then (wys 0 gs (pushV H i g.1)).map (fun q => i :: q) else []) i m).isEmpty).toNat), w1) ∧ CH w1 H ∧ SFr w0 w1 := by
      intro m
      induction m with
      | zero =>
        intro i F w0 hm hF hC0 h57
        obtain ⟨F, rfl⟩ : ∃ G, F = G + 1 := ⟨F - 1, by omega⟩
        refine ⟨w0, ?_, hC0, SFr.refl⟩
        rw [ff_tr_hasWay_9_f, lpF]
        unfold ff_tr_hasWay_9_b
        simp (disch := omega) only [u32_lit, hC0.1, u32_le, if_pos]
        rfl
      | succ m ihm =>
        intro i F w0 hm hF hC0 h57
        obtain ⟨F, rfl⟩ : ∃ G, F = G + 1 := ⟨F - 1, by omega⟩
        have hi : i < hN H := by omega
        have e57 : w0.1 57 d = u32 g.1 := by rw [h57]; exact t1
        rw [lpF, empty_app]
        by_cases hs : canV H i g.1 = true
        · obtain ⟨c8, cb⟩ := canV_free hs
          obtain ⟨w2, p1, p2, p3⟩ := hs_push (x := g.1) hC0 hok hi c8 cb
          have hokp := pushV_ok hok hi t3 c8
          obtain ⟨w3, r1, r2, r3⟩ := ih k (d + 1) n (pushV H i g.1) w2 (by omega) (by omega) hn (fun j x hj => by
            rw [p3.hi (by decide), h57]
            have := ht (j + 1) x hj
            rw [show d + (j + 1) = d + 1 + j by omega] at this
            exact this) p2 hokp
          obtain ⟨w4, s1, s2, s3⟩ := hs_pop r2 hok hi c8 cb
          have hf : SFr w0 w4 := (p3.trans r3).trans s3
          have hstep : ff_tr_hasWay_9_f (ff_tr_hasWay k) (F + 1) (u32 d) (u32 n) (u32 i) w0 = if (!(wys 0 gs (pushV H i g.1)).isEmpty) = false then ff_tr_hasWay_9_f (ff_tr_hasWay k) F (u32 d) (u32 n) (u32 (i + 1)) w4 else some (.int (u32 1), w4) := by
            rw [ff_tr_hasWay_9_f]
            unfold ff_tr_hasWay_9_b
            have hcan := ho_can hC0 hok hi t3
            rw [hs] at hcan
            simp (disch := omega) only [u32_lit, hC0.1, u32_le, if_neg, sm_rd_u, bs_, e57, hcan, cI_, u32_bool_eq0, p1, cV_, u32_add, r1, s1]
            rw [if_neg (by decide)]
          rw [hst, hs, if_pos rfl, empty_map]
          cases he : (wys 0 gs (pushV H i g.1)).isEmpty with
          | true =>
            rw [he, if_pos (show (!true) = false from rfl)] at hstep
            obtain ⟨w5, x1, x2, x3⟩ := ihm (i + 1) F w4 (by omega) (by omega) s2 (by rw [hf.hi (by decide)]; exact h57)
            exact ⟨w5, by rw [hstep, x1]; rfl, x2, hf.trans x3⟩
          | false =>
            rw [he, if_neg (show ¬ (!false) = false by decide)] at hstep
            exact ⟨w4, by rw [hstep]; rfl, s2, hf⟩
        · have hs := eq_false_of_ne_true hs
          obtain ⟨w5, x1, x2, x3⟩ := ihm (i + 1) F w0 (by omega) (by omega) hC0 h57
          refine ⟨w5, ?_, x2, x3⟩
          have hcan := ho_can hC0 hok hi t3
          rw [hs] at hcan
          rw [hst, hs, if_neg (by decide), ff_tr_hasWay_9_f]
          unfold ff_tr_hasWay_9_b
          simp (disch := omega) only [u32_lit, hC0.1, u32_le, if_neg, sm_rd_u, bs_, e57, hcan, cI_, u32_bool_eq0, if_true, u32_add]
          exact x1
    obtain ⟨w1, a1, a2, a3⟩ := loop (hN H) 0 1000000 w (by omega) (by omega) hC rfl
    refine ⟨w1, ?_, a2, a3⟩
    rw [ff_tr_hasWay, wys]
    unfold ff_tr_hasWay_0 ff_tr_hasWay_9
    simp (disch := omega) only [u32_lit, u32_lt, if_pos]
    rw [sm_N_eq]
    exact a1
/-- a number's figures to the base of 6 -/
def digN (n s k : Nat) : Nat := s / 6 ^ (n - 1 - k) % 6
def digL (n s : Nat) : List Nat := (List.range n).map (digN n s)
def glOf (r : List Nat) : List Gl := r.map (fun x => (x, none))
theorem digL_len {n s : Nat} : (digL n s).length = n := by
  unfold digL
  rw [List.length_map, List.length_range]
theorem glOf_len {r : List Nat} : (glOf r).length = r.length := List.length_map _
theorem digL_at {n s j x : Nat} (h : (digL n s)[j]? = some x) : j < n ∧ x = digN n s j := by
  unfold digL at h
  rw [List.getElem?_map] at h
  have hj : j < n := by
    by_cases hj : j < n
    · exact hj
    · rw [List.getElem?_eq_none (by rw [List.length_range]; omega)] at h
      cases h
  rw [List.getElem?_range hj] at h
  cases h
  exact ⟨hj, rfl⟩
theorem glOf_at {r : List Nat} {j : Nat} {g : Gl} (h : (glOf r)[j]? = some g) : r[j]? = some g.1 ∧ g.2 = none := by
  unfold glOf at h
  rw [List.getElem?_map] at h
  cases hr : r[j]? with
  | none => rw [hr] at h; cases h
  | some x => rw [hr] at h; cases h; exact ⟨rfl, rfl⟩
theorem glDig_at {n s j : Nat} {g : Gl} (h : (glOf (digL n s))[j]? = some g) : j < n ∧ g.1 = digN n s j ∧ g.2 = none ∧ g.1 < 6 := by
  obtain ⟨h1, h2⟩ := glOf_at h
  obtain ⟨h3, h4⟩ := digL_at h1
  exact ⟨h3, h4, h2, by rw [h4]; exact Nat.mod_lt _ (by decide)⟩
theorem dig_step {n s k : Nat} (hk : k < n) : s / 6 ^ (n - 1 - k) / 6 = s / 6 ^ (n - k) := by
  rw [Nat.div_div_eq_div_mul, ← Nat.pow_succ]
  congr 2
  omega
theorem mod6 {x : Nat} (hx : x < 2147483648) : u32 x - u32 x / u32 6 * u32 6 = u32 (x % 6) := by
  simp (disch := omega) only [u32_div, u32_mul, u32_sub]
  rw [show x - x / 6 * 6 = x % 6 by omega]
theorem down_0 : (u32 0 + -u32 1 < u32 0) = True := eq_true (by decide)
theorem six0 : (u32 6 = u32 0) = False := eq_false (by decide)
/-- the words of a number laid down by the class -/
theorem tr_lay {self : Int32 → Int32 → Int32 → sm_Mem → sm_R} {n s : Nat} {rows : Int32} (hn : n ≤ 4) (hs : s < 1296) : ∀ (k F : Nat) (w : sm_Mem), k < F → k ≤ n → (∀ j, k ≤ j → j < n → w.1 57 j = u32 (digN n s j)) → ∃ w1, (∀ j, j < n → w1.1 57 j = u32 (digN n s j)) ∧ (∀ a, a ≠ 57 → w1.1 a = w.1 a) ∧ w1.2 = w.2 ∧ ff_tr_firstDumb_35_f self F (u32 n) rows (u32 s) (u32 (s / 6 ^ (n - k))) (u32 k + -u32 1) w = (sm_cI (ff_tr_hasWay 8 (u32 0) (u32 n) w1) fun x1 w2 => (if x1 = u32 0 then (some (.int (u32 s), w2)) else self (u32 n) rows (u32 (s + 1)) w2)) := by
  intro k
  induction k with
  | zero =>
    intro F w hF hk h
    obtain ⟨F, rfl⟩ : ∃ G, F = G + 1 := ⟨F - 1, by omega⟩
    refine ⟨w, fun j hj => h j (Nat.zero_le _) hj, fun _ _ => rfl, rfl, ?_⟩
    rw [ff_tr_firstDumb_35_f]
    unfold ff_tr_firstDumb_35_b
    simp only [u32_lit, down_0, if_true, u32_add]
  | succ k ih =>
    intro F w hF hk h
    obtain ⟨F, rfl⟩ : ∃ G, F = G + 1 := ⟨F - 1, by omega⟩
    have hq : s / 6 ^ (n - 1 - k) < 2147483648 := Nat.lt_of_le_of_lt (Nat.div_le_self _ _) (by omega)
    obtain ⟨w1, a1, a2, a3, a4⟩ := ih F (sm_wI w 57 k (u32 (digN n s k))) (by omega) (by omega) (fun j hj1 hj2 => by
      by_cases e : j = k
      · rw [e, sm_wI_eq]
      · rw [sm_wI_nj e]; exact h j (by omega) hj2)
    refine ⟨w1, a1, fun a ha => by rw [a2 a ha, sm_wI_ne ha], by rw [a3]; rfl, ?_⟩
    rw [← a4, ff_tr_firstDumb_35_f, show n - (k + 1) = n - 1 - k by omega, dec_u]
    unfold ff_tr_firstDumb_35_b
    have e7 : u32 (s / 6 ^ (n - 1 - k)) / u32 6 = u32 (s / 6 ^ (n - k)) := by rw [u32_div hq (by omega), dig_step (by omega)]
    simp (disch := omega) only [u32_lit, u32_lt, if_neg, six0, if_false]
    rw [mod6 hq, sm_wr_u (by omega) (by omega), bs_, e7]
    rfl
def findD (P : Nat → Bool) : Nat → Nat → Option Nat
  | _, 0 => none
  | s, m + 1 => if P s = true then findD P (s + 1) m else some s
theorem findD_lt {P : Nat → Bool} : ∀ (m s x : Nat), findD P s m = some x → s ≤ x ∧ x < s + m
  | 0, s, x, h => by cases h
  | m + 1, s, x, h => by
    rw [findD] at h
    split at h
    · have := findD_lt m (s + 1) x h
      omega
    · cases h
      omega
def sayP (H : HV) (n s : Nat) : Bool := !(wys 0 (glOf (digL n s)) H).isEmpty
/-- what a trial of the class leaves -/
def TFr (w w1 : sm_Mem) : Prop := (∀ a, (a < 36 ∨ (36 < a ∧ a < 42) ∨ (44 < a ∧ a ≠ 57)) → w1.1 a = w.1 a) ∧ (∀ j, j ≠ 11 → w1.1 36 j = w.1 36 j) ∧ w1.2 = w.2
theorem TFr.refl {w : sm_Mem} : TFr w w := ⟨fun _ _ => rfl, fun _ _ => rfl, rfl⟩
theorem TFr.trans {w w1 w2 : sm_Mem} (h1 : TFr w w1) (h2 : TFr w1 w2) : TFr w w2 := ⟨fun a ha => (h2.1 a ha).trans (h1.1 a ha), fun j hj => (h2.2.1 j hj).trans (h1.2.1 j hj), h2.2.2.trans h1.2.2⟩
theorem TFr.s {w w1 : sm_Mem} (h : SFr w w1) : TFr w w1 := ⟨fun a ha => by
  by_cases e : a = 41
  · rw [e]; exact h.2.1
  · exact h.1.1 a (by omega), h.2.2, h.1.2.1⟩
theorem TFr.w {w w1 : sm_Mem} (h : ∀ a, a ≠ 57 → w1.1 a = w.1 a) (h2 : w1.2 = w.2) : TFr w w1 := ⟨fun a ha => h a (by omega), fun j _ => by rw [h 36 (by decide)], h2⟩
theorem tr_first {n : Nat} {H : HV} (hn : 0 < n) (hn4 : n ≤ 4) (hok : HOk H) {R6 : Nat} (hR6 : R6 ≤ 1296) : ∀ (m s F : Nat) (w : sm_Mem), s + m = R6 → m < F → CH w H → ∃ w1, ff_tr_firstDumb_22_f F (u32 n) (u32 R6) (u32 s) w = some (.int (oAns (findD (sayP H n) s m)), w1) ∧ CH w1 H ∧ TFr w w1 := by
  intro m
  induction m with
  | zero =>
    intro s F w hm hF hC
    obtain ⟨F, rfl⟩ : ∃ G, F = G + 1 := ⟨F - 1, by omega⟩
    refine ⟨w, ?_, hC, TFr.refl⟩
    rw [ff_tr_firstDumb_22_f, findD]
    unfold ff_tr_firstDumb_22_b
    simp (disch := omega) only [u32_lit, u32_le, if_pos]
    rfl
  | succ m ih =>
    intro s F w hm hF hC
    obtain ⟨F, rfl⟩ : ∃ G, F = G + 1 := ⟨F - 1, by omega⟩
    obtain ⟨w1, a1, a2, a3, a4⟩ := tr_lay (self := ff_tr_firstDumb_22_f F) (rows := u32 R6) hn4 (show s < 1296 by omega) n 1000000 w (by omega) (Nat.le_refl _) (fun j h1 h2 => absurd h1 (by omega))
    have hC1 : CH w1 H := CH_fr (fun a h1 h2 => a2 a (by omega)) hC
    obtain ⟨w2, b1, b2, b3⟩ := tr_hasWay (glOf (digL n s)) 8 0 n H w1 (by rw [glOf_len, digL_len]; omega) (by rw [glOf_len, digL_len]; omega) hn4 (fun j g hj => by
      obtain ⟨x1, x2, x3, x4⟩ := glDig_at hj
      exact ⟨by rw [Nat.zero_add, a1 j x1, x2], x3, x4⟩) hC1 hok
    have hf : TFr w w2 := (TFr.w a2 a3).trans (TFr.s b3)
    have step : ff_tr_firstDumb_22_f (F + 1) (u32 n) (u32 R6) (u32 s) w = if sayP H n s = false then some (.int (u32 s), w2) else ff_tr_firstDumb_22_f F (u32 n) (u32 R6) (u32 (s + 1)) w2 := by
      rw [ff_tr_firstDumb_22_f]
      unfold ff_tr_firstDumb_22_b ff_tr_firstDumb_35
      rw [Nat.sub_self, Nat.pow_zero, Nat.div_one] at a4
      have e1 : u32 n - u32 1 = u32 n + -u32 1 := Int32.sub_eq_add_neg _ _
      simp (disch := omega) only [u32_lit, u32_le, if_neg, e1]
      rw [sm_N_eq, a4, b1, cI_]
      simp only [u32_bool_eq0]
      rfl
    rw [findD]
    cases hp : sayP H n s with
    | false =>
      rw [hp, if_pos rfl] at step
      exact ⟨w2, by rw [step, if_neg (by decide)]; rfl, b2, hf⟩
    | true =>
      rw [hp, if_neg (by decide)] at step
      obtain ⟨w3, c1, c2, c3⟩ := ih (s + 1) F w2 (by omega) (by omega) b2
      exact ⟨w3, by rw [step, if_pos rfl]; exact c1, c2, hf.trans c3⟩
theorem tr_six {n : Nat} : ∀ (m k a F : Nat) (w : sm_Mem), k + m = n → n < 100 → m < F → ff_tr_firstDumb_4_f F (u32 n) (u32 a) (u32 k) w = ff_tr_firstDumb_22 (u32 n) (u32 (a * 6 ^ m)) (u32 0) w := by
  intro m
  induction m with
  | zero =>
    intro k a F w hk hn hF
    obtain ⟨F, rfl⟩ : ∃ G, F = G + 1 := ⟨F - 1, by omega⟩
    rw [ff_tr_firstDumb_4_f, Nat.pow_zero, Nat.mul_one]
    unfold ff_tr_firstDumb_4_b
    simp (disch := omega) only [u32_lit, u32_le, if_pos]
  | succ m ih =>
    intro k a F w hk hn hF
    obtain ⟨F, rfl⟩ : ∃ G, F = G + 1 := ⟨F - 1, by omega⟩
    rw [ff_tr_firstDumb_4_f]
    unfold ff_tr_firstDumb_4_b
    simp (disch := omega) only [u32_lit, u32_le, if_neg, u32_mul, u32_add]
    rw [ih (k + 1) (a * 6) F w (by omega) hn (by omega), Nat.pow_succ, Nat.mul_assoc, Nat.mul_comm 6]
theorem tr_firstDumb {n : Nat} {H : HV} {w : sm_Mem} (hn : 0 < n) (hn4 : n ≤ 4) (hok : HOk H) (hC : CH w H) : ∃ w1, ff_tr_firstDumb (u32 n) w = some (.int (oAns (findD (sayP H n) 0 (6 ^ n))), w1) ∧ CH w1 H ∧ TFr w w1 := by
  have h6 : 6 ^ n ≤ 6 ^ 4 := Nat.pow_le_pow_right (by decide) hn4
  have h7 : (6 : Nat) ^ 4 = 1296 := rfl
  obtain ⟨w1, a1, a2, a3⟩ := tr_first (R6 := 6 ^ n) hn hn4 hok (by omega) (6 ^ n) 0 1000000 w (by omega) (by omega) hC
  refine ⟨w1, ?_, a2, a3⟩
  unfold ff_tr_firstDumb ff_tr_firstDumb_4
  rw [sm_N_eq, u32_lit, u32_lit, tr_six n 0 1 1000000 w (by omega) (by omega) (by omega), Nat.one_mul]
  unfold ff_tr_firstDumb_22
  rw [sm_N_eq]
  exact a1
/-- the first number without a way, and its length -/
def dumbF (H : HV) : Nat → Nat → Option (Nat × Nat)
  | _, 0 => none
  | n, m + 1 => match findD (sayP H n) 0 (6 ^ n) with
    | some x => some (n, x)
    | none => dumbF H (n + 1) m
theorem ho_dumb_loop {H : HV} (hok : HOk H) : ∀ (m n F : Nat) (w : sm_Mem), 1 ≤ n → n + m = 4 → m < F → CH w H → ∃ w1, CH w1 H ∧ TFr w w1 ∧ ff_ho_dumb_15_f F (u32 n) w = match dumbF H n m with
    | none => some (.int (-u32 9), w1)
    | some p => some (.int (u32 p.1), sm_wI w1 60 0 (u32 p.2)) := by
  intro m
  induction m with
  | zero =>
    intro n F w h1 hn hF hC
    obtain ⟨F, rfl⟩ : ∃ G, F = G + 1 := ⟨F - 1, by omega⟩
    refine ⟨w, hC, TFr.refl, ?_⟩
    rw [ff_ho_dumb_15_f, dumbF]
    unfold ff_ho_dumb_15_b
    simp (disch := omega) only [u32_lit, u32_lt, if_pos]
  | succ m ih =>
    intro n F w h1 hn hF hC
    obtain ⟨F, rfl⟩ : ∃ G, F = G + 1 := ⟨F - 1, by omega⟩
    obtain ⟨w1, a1, a2, a3⟩ := tr_firstDumb (w := w) (show 0 < n by omega) (by omega) hok hC
    have h6 : 6 ^ n ≤ 6 ^ 4 := Nat.pow_le_pow_right (by decide) (by omega)
    have h7 : (6 : Nat) ^ 4 = 1296 := rfl
    rw [dumbF]
    cases hd : findD (sayP H n) 0 (6 ^ n) with
    | none =>
      obtain ⟨w2, b1, b2, b3⟩ := ih (n + 1) F w1 (by omega) (by omega) (by omega) a2
      refine ⟨w2, b1, a3.trans b2, ?_⟩
      dsimp only
      rw [← b3, ff_ho_dumb_15_f]
      unfold ff_ho_dumb_15_b
      rw [hd] at a1
      have e9 : (oAns none = -u32 9) = True := eq_true rfl
      simp (disch := omega) only [u32_lit, u32_lt, if_neg, a1, cI_, e9, if_true, u32_add]
    | some x =>
      have hx := findD_lt _ _ _ hd
      refine ⟨w1, a2, a3, ?_⟩
      dsimp only
      rw [ff_ho_dumb_15_f]
      unfold ff_ho_dumb_15_b
      rw [hd] at a1
      have e9 : (u32 x = -u32 9) = False := u32_eq_neg (by omega) (by decide) (by decide)
      have ex : oAns (some x) = u32 x := rfl
      rw [ex] at a1
      simp (disch := omega) only [u32_lit, u32_lt, if_neg, a1, cI_, e9, if_false, let_]
theorem XFr.t {w w1 : sm_Mem} (h : TFr w w1) (ha : ∀ a, 61 < a → w1.1 a = w.1 a) : XFr w w1 := ⟨fun a hb => by
  by_cases e : 61 < a
  · exact ha a e
  · exact h.1 a (by omega), h.2.1, by rw [h.1 60 (by omega)]⟩
