/-! pure: how far an order is from a row -/
def dRow (o : Int32) (g : Nat → Int32) (pv : Nat → Nat) (st : Nat) : Nat → Nat
  | 0 => st
  | b + 1 => min (pv b + (if o = g b then 0 else 1)) (1 + min (pv (b + 1)) (dRow o g pv st b))
def dM (o g : Nat → Int32) : Nat → Nat → Nat
  | 0 => fun b => b
  | a + 1 => dRow (o a) g (dM o g a) (a + 1)
theorem dRow_le {o : Int32} {g : Nat → Int32} {pv : Nat → Nat} {a : Nat} (h : ∀ b, pv b ≤ a + b) : ∀ b, dRow o g pv (a + 1) b ≤ a + 1 + b
  | 0 => Nat.le_refl _
  | b + 1 => by
    have h1 := h b
    rw [dRow]
    refine Nat.le_trans (Nat.min_le_left _ _) ?_
    by_cases e : o = g b
    · rw [if_pos e]; omega
    · rw [if_neg e]; omega
theorem dM_le {o g : Nat → Int32} : ∀ (a b : Nat), dM o g a b ≤ a + b
  | 0, b => by
    show b ≤ 0 + b
    omega
  | a + 1, b => by
    rw [dM]
    exact dRow_le (fun c => dM_le a c) b
theorem dM_ss {o g : Nat → Int32} {a b : Nat} : dM o g (a + 1) (b + 1) = min (dM o g a b + (if o a = g b then 0 else 1)) (1 + min (dM o g a (b + 1)) (dM o g (a + 1) b)) := rfl
theorem u32_min {a b : Nat} (ha : a < 2147483648) (hb : b < 2147483648) : (if u32 a < u32 b then u32 a else u32 b) = u32 (min a b) := by
  by_cases h : a < b
  · rw [if_pos (by rw [u32_lt ha hb]; exact h), Nat.min_eq_left (by omega)]
  · rw [if_neg (by rw [u32_lt ha hb]; exact h), Nat.min_eq_right (by omega)]
/-! by the reference -/
def EFr (k : Nat) (w w1 : sm_Mem) : Prop := (∀ a, a ≠ k → w1.1 a = w.1 a) ∧ w1.2 = w.2
theorem EFr.refl {k : Nat} {w : sm_Mem} : EFr k w w := ⟨fun _ _ => rfl, rfl⟩
theorem EFr.trans {k : Nat} {w w1 w2 : sm_Mem} (h1 : EFr k w w1) (h2 : EFr k w1 w2) : EFr k w w2 := ⟨fun a ha => (h2.1 a ha).trans (h1.1 a ha), h2.2.trans h1.2⟩
theorem EFr.wI {k j : Nat} {w : sm_Mem} {x : Int32} : EFr k w (sm_wI w k j x) := ⟨fun a ha => sm_wI_ne ha, rfl⟩
theorem mo_off_pick {s1 : Int32 → Int32 → sm_Mem → sm_R} {s2 : Int32 → Int32 → Int32 → sm_Mem → sm_R} {a1 a3 a4 : Int32} {x y c : Nat} {b0 b1 : Int32} {w : sm_Mem} (hx : x < 2147483648) (hy : y < 2147483648) (hc : c < 2147483648) (hb : b0 + b1 = u32 c) : ff_mo_off_236 s1 s2 a1 a3 a4 (u32 x) (u32 y) b0 b1 w = ff_mo_off_271 s1 s2 a1 a3 a4 (u32 (min c (min x y))) w := by
  unfold ff_mo_off_236 ff_mo_off_253 ff_mo_off_269
  simp (disch := omega) only [hb, u32_le]
  by_cases h1 : y ≤ x
  · rw [if_pos h1]
    by_cases h2 : y ≤ c
    · rw [if_pos h2, show min c (min x y) = y by omega]
    · rw [if_neg h2, show min c (min x y) = c by omega]
  · rw [if_neg h1]
    by_cases h2 : x ≤ c
    · rw [if_pos h2, show min c (min x y) = x by omega]
    · rw [if_neg h2, show min c (min x y) = c by omega]
/-- what is read: row r of n, the order of S -/
def OffM (w : sm_Mem) (r n S : Nat) (o g : Nat → Int32) : Prop := w.1 67 r = u32 n ∧ w.1 63 2 = u32 S ∧ (∀ k, k < S → w.1 63 (4 + k) = o k) ∧ ∀ j, w.1 68 (40 * r + j) = g j
theorem OffM.fr {w w1 : sm_Mem} {r n S : Nat} {o g : Nat → Int32} (h : OffM w r n S o g) (hf : EFr 78 w w1) : OffM w1 r n S o g := by
  obtain ⟨h1, h2, h3, h4⟩ := h
  exact ⟨by rw [hf.1 67 (by decide)]; exact h1, by rw [hf.1 63 (by decide)]; exact h2, fun k hk => by rw [hf.1 63 (by decide)]; exact h3 k hk, fun j => by rw [hf.1 68 (by decide)]; exact h4 j⟩
theorem mo_off_one {self : Int32 → Int32 → sm_Mem → sm_R} {r n S a b F : Nat} {o g : Nat → Int32} {w : sm_Mem} (hr : r < 6) (hn : n ≤ 8) (hS : S ≤ 8) (ha : a ≤ S) (hb : b ≤ n) (h : OffM w r n S o g) (hp : ∀ i j, i < a → j ≤ n → w.1 78 (9 * i + j) = u32 (dM o g i j)) (hq : ∀ j, j < b → w.1 78 (9 * a + j) = u32 (dM o g a j)) : ff_mo_off_126_f self (F + 1) (u32 r) (u32 a) (u32 b) w = ff_mo_off_126_f self F (u32 r) (u32 a) (u32 (b + 1)) (sm_wI w 78 (9 * a + b) (u32 (dM o g a b))) := by
  obtain ⟨h1, h2, h3, h4⟩ := h
  rw [ff_mo_off_126_f]
  unfold ff_mo_off_126_b
  cases a with
  | zero =>
    unfold ff_mo_off_271
    simp (disch := omega) only [u32_lit, sm_rd_u, bs_, h1, u32_lt, if_neg, u32_le, if_pos, u32_mul, u32_add, sm_wr_u]
    rw [Nat.zero_add]
    rfl
  | succ a =>
    cases b with
    | zero =>
      unfold ff_mo_off_271
      simp (disch := omega) only [u32_lit, sm_rd_u, bs_, h1, u32_lt, if_neg, u32_le, if_pos, u32_mul, u32_add, sm_wr_u]
      rfl
    | succ b =>
      have e2 : 9 * (a + 1) + (b + 1) - 1 = 9 * (a + 1) + b := by omega
      have e3 : 9 * a + (b + 1) - 1 = 9 * a + b := by omega
      have e4 : 4 + (a + 1) - 1 = 4 + a := by omega
      have e5 : 40 * r + (b + 1) - 1 = 40 * r + b := by omega
      have p1 := hp a (b + 1) (by omega) (by omega)
      have p2 := hq b (by omega)
      have p3 := hp a b (by omega) (by omega)
      have l1 := dM_le (o := o) (g := g) a (b + 1)
      have l2 := dM_le (o := o) (g := g) (a + 1) b
      have l3 := dM_le (o := o) (g := g) a b
      simp (disch := omega) only [u32_lit, sm_rd_u, bs_, h1, u32_lt, if_neg, u32_le, u32_sub, Nat.add_sub_cancel, u32_mul, u32_add, e2, e3, e4, e5, p1, p2, p3, h3 a (by omega), h4]
      rw [dM_ss]
      by_cases e : o a = g b
      · rw [if_pos e, if_pos e, mo_off_pick (by omega) (by omega) (by omega) u32_add]
        unfold ff_mo_off_271
        simp (disch := omega) only [u32_lit, u32_mul, u32_add, sm_wr_u, bs_]
        rw [show min (dM o g a b + 0) (min (dM o g a (b + 1) + 1) (dM o g (a + 1) b + 1)) = min (dM o g a b + 0) (1 + min (dM o g a (b + 1)) (dM o g (a + 1) b)) by omega]
      · rw [if_neg e, if_neg e, mo_off_pick (by omega) (by omega) (by omega) u32_add]
        unfold ff_mo_off_271
        simp (disch := omega) only [u32_lit, u32_mul, u32_add, sm_wr_u, bs_]
        rw [show min (dM o g a b + 1) (min (dM o g a (b + 1) + 1) (dM o g (a + 1) b + 1)) = min (dM o g a b + 1) (1 + min (dM o g a (b + 1)) (dM o g (a + 1) b)) by omega]
theorem mo_off_row {self : Int32 → Int32 → sm_Mem → sm_R} {r n S a : Nat} {o g : Nat → Int32} (hr : r < 6) (hn : n ≤ 8) (hS : S ≤ 8) (ha : a ≤ S) : ∀ (m b F : Nat) (w : sm_Mem), b + m = n + 1 → m < F → OffM w r n S o g → (∀ i j, i < a → j ≤ n → w.1 78 (9 * i + j) = u32 (dM o g i j)) → (∀ j, j < b → w.1 78 (9 * a + j) = u32 (dM o g a j)) → ∃ w1, ff_mo_off_126_f self F (u32 r) (u32 a) (u32 b) w = self (u32 r) (u32 (a + 1)) w1 ∧ EFr 78 w w1 ∧ ∀ i j, i < a + 1 → j ≤ n → w1.1 78 (9 * i + j) = u32 (dM o g i j) := by
  intro m
  induction m with
  | zero =>
    intro b F w hm hF h hp hq
    obtain ⟨F, rfl⟩ : ∃ G, F = G + 1 := ⟨F - 1, by omega⟩
    refine ⟨w, ?_, EFr.refl, fun i j hi hj => ?_⟩
    · rw [ff_mo_off_126_f]
      unfold ff_mo_off_126_b
      simp (disch := omega) only [u32_lit, sm_rd_u, bs_, h.1, u32_lt, if_pos, u32_add]
    · by_cases e : i = a
      · rw [e]; exact hq j (by omega)
      · exact hp i j (by omega) hj
  | succ m ih =>
    intro b F w hm hF h hp hq
    obtain ⟨F, rfl⟩ : ∃ G, F = G + 1 := ⟨F - 1, by omega⟩
    have step := mo_off_one (self := self) (F := F) hr hn hS ha (show b ≤ n by omega) h hp hq
    obtain ⟨w1, a1, a2, a3⟩ := ih (b + 1) F (sm_wI w 78 (9 * a + b) (u32 (dM o g a b))) (by omega) (by omega) (h.fr EFr.wI) (fun i j hi hj => by rw [sm_wI_nj (by omega)]; exact hp i j hi hj) (fun j hj => by
      by_cases e : j = b
      · rw [e, sm_wI_eq]
      · rw [sm_wI_nj (by omega)]; exact hq j (by omega))
    exact ⟨w1, step.trans a1, EFr.wI.trans a2, a3⟩
theorem mo_off_all {r n S : Nat} {o g : Nat → Int32} (hr : r < 6) (hn : n ≤ 8) (hS : S ≤ 8) : ∀ (m a F : Nat) (w : sm_Mem), a + m = S + 1 → m < F → OffM w r n S o g → (∀ i j, i < a → j ≤ n → w.1 78 (9 * i + j) = u32 (dM o g i j)) → ∃ w1, ff_mo_off_113_f F (u32 r) (u32 a) w = some (.int (u32 (dM o g S n)), w1) ∧ EFr 78 w w1 := by
  intro m
  induction m with
  | zero =>
    intro a F w hm hF h hp
    obtain ⟨F, rfl⟩ : ∃ G, F = G + 1 := ⟨F - 1, by omega⟩
    refine ⟨w, ?_, EFr.refl⟩
    have p := hp S n (by omega) (Nat.le_refl _)
    rw [ff_mo_off_113_f]
    unfold ff_mo_off_113_b
    simp (disch := omega) only [u32_lit, sm_rd_u, bs_, h.1, h.2.1, u32_lt, if_pos, u32_mul, u32_add, p]
  | succ m ih =>
    intro a F w hm hF h hp
    obtain ⟨F, rfl⟩ : ∃ G, F = G + 1 := ⟨F - 1, by omega⟩
    obtain ⟨w1, a1, a2, a3⟩ := mo_off_row (self := ff_mo_off_113_f F) hr hn hS (show a ≤ S by omega) (n + 1) 0 1000000 w (by omega) (by omega) h hp (fun j hj => absurd hj (Nat.not_lt_zero _))
    obtain ⟨w2, b1, b2⟩ := ih (a + 1) F w1 (by omega) (by omega) (h.fr a2) a3
    refine ⟨w2, ?_, a2.trans b2⟩
    rw [← b1, ← a1, ff_mo_off_113_f]
    unfold ff_mo_off_113_b ff_mo_off_126
    simp (disch := omega) only [u32_lit, sm_rd_u, bs_, h.2.1, u32_lt, if_neg, sm_N_eq]
theorem mo_off_no {r n : Nat} {w : sm_Mem} (hr : r < 6) (hn : n ≤ 40) (hw : w.1 67 r = u32 n) : ∀ (m p F : Nat), p + m = n → m < F → ff_mo_off_58_f F (u32 r) (u32 0) (u32 (40 * r + p)) w = some (.int (-u32 3), wmRef 3 w) := by
  intro m
  induction m with
  | zero =>
    intro p F hp hF
    obtain ⟨F, rfl⟩ : ∃ G, F = G + 1 := ⟨F - 1, by omega⟩
    rw [ff_mo_off_58_f]
    unfold ff_mo_off_58_b
    simp (disch := omega) only [u32_lit, sm_rd_u, bs_, hw, u32_mul, u32_add, u32_le, if_pos, if_true, mo_find, cI_]
  | succ m ih =>
    intro p F hp hF
    obtain ⟨F, rfl⟩ : ∃ G, F = G + 1 := ⟨F - 1, by omega⟩
    have ih := ih (p + 1) F (by omega) (by omega)
    rw [← Nat.add_assoc] at ih
    rw [ff_mo_off_58_f]
    unfold ff_mo_off_58_b ff_mo_off_93
    simp (disch := omega) only [u32_lit, sm_rd_u, bs_, hw, u32_mul, u32_add, u32_le, if_neg, if_true, ih]
theorem mo_off_loop {r n : Nat} {w : sm_Mem} (hr : r < 6) (hn : n ≤ 40) (hw : w.1 67 r = u32 n) : ∀ (m p F : Nat), p + m = n → m < F → ff_mo_off_58_f F (u32 r) (u32 1) (u32 (40 * r + p)) w = if allW (fun j => w.1 68 (40 * r + j)) p m = true then ff_mo_off_113 (u32 r) (u32 0) w else some (.int (-u32 3), wmRef 3 w) := by
  intro m
  induction m with
  | zero =>
    intro p F hp hF
    obtain ⟨F, rfl⟩ : ∃ G, F = G + 1 := ⟨F - 1, by omega⟩
    rw [ff_mo_off_58_f, allW, if_pos rfl]
    unfold ff_mo_off_58_b
    simp (disch := omega) only [u32_lit, sm_rd_u, bs_, hw, u32_mul, u32_add, u32_le, if_pos, u10, if_false]
  | succ m ih =>
    intro p F hp hF
    obtain ⟨F, rfl⟩ : ∃ G, F = G + 1 := ⟨F - 1, by omega⟩
    have hno := mo_off_no hr hn hw m (p + 1) F (by omega) (by omega)
    have ih := ih (p + 1) F (by omega) (by omega)
    rw [← Nat.add_assoc] at ih hno
    rw [ff_mo_off_58_f, allW]
    unfold ff_mo_off_58_b ff_mo_off_93
    simp (disch := omega) only [u32_lit, sm_rd_u, bs_, hw, u32_mul, u32_add, u32_le, if_neg, u10, if_false, hno, ih]
    rcases wordOf_cases (w.1 68 (40 * r + p)) with ⟨e, hb⟩ | ⟨x, e, hx, ex⟩
    · rw [e, mo_isWord_bad hb]
      simp only [cI_, if_true]
      rw [hno]
      rfl
    · rw [e, ex, mo_isWord_good hx]
      simp only [cI_, u10, if_false, Option.isSome_some, Bool.true_and]
      exact ih
theorem mo_off_ref {r : Nat} {w : sm_Mem} {N : Nat} (hr : r < 6) (h62 : w.1 62 1 = u32 N) (hN6 : N ≤ 6) : (N = 0 → ff_mo_off (u32 r) w = some (.int (-u32 4), w)) ∧ (0 < N → w.1 67 r = -u32 1 → ff_mo_off (u32 r) w = some (.int (-u32 3), wmRef 1 w)) ∧ ∀ n, n ≤ 40 → 0 < N → w.1 67 r = u32 n → (8 < n → ff_mo_off (u32 r) w = some (.int (-u32 3), wmRef 5 w)) ∧ (n ≤ 8 → ff_mo_off (u32 r) w = if allW (fun j => w.1 68 (40 * r + j)) 0 n = true then ff_mo_off_113 (u32 r) (u32 0) w else some (.int (-u32 3), wmRef 3 w)) := by
  refine ⟨fun h0 => ?_, fun h0 hc => ?_, fun n hn h0 hc => ⟨fun hm => ?_, fun hm => ?_⟩⟩
  · subst h0
    unfold ff_mo_off
    simp (disch := omega) only [u32_lit, mo_isRow_good hr, cI_, u10, if_false, h62, if_true]
  · unfold ff_mo_off
    simp (disch := omega) only [u32_lit, mo_isRow_good hr, cI_, u10, h62, u32_eq, if_neg, sm_rd_u, bs_, hc, n1_lt, if_false, mo_find]
  · unfold ff_mo_off
    simp (disch := omega) only [u32_lit, mo_isRow_good hr, cI_, u10, if_false, h62, u32_eq, if_neg, sm_rd_u, bs_, hc, u32_le, Nat.zero_le, if_true, mo_find]
  · have e := mo_off_loop hr hn hc n 0 1000000 (by omega) (by omega)
    rw [Nat.add_zero] at e
    unfold ff_mo_off
    simp (disch := omega) only [u32_lit, mo_isRow_good hr, cI_, u10, if_false, h62, u32_eq, if_neg, sm_rd_u, bs_, hc, u32_le, Nat.zero_le, if_true, if_pos, u32_mul]
    unfold ff_mo_off_58
    rw [sm_N_eq]
    exact e
/-! by the class -/
theorem tr_101 {s36 : Nat → Int32 → Int32 → sm_Mem → sm_R} {s67 : Nat → Int32 → Int32 → Int32 → Int32 → sm_Mem → sm_R} {c b p q d : Nat} {a2 a3 b0 b1 : Int32} {w : sm_Mem} (hb : b + 1 < 9) (hp : w.1 59 b = u32 p) (hq : w.1 59 (b + 1) = u32 q) (hd : b0 + b1 = u32 d) (p1 : p < 1000) (q1 : q < 1000) (d1 : d < 1000) : ff_tr_distanceTo_101 s36 s67 c a2 a3 (u32 (b + 1)) b0 b1 w = s67 c a2 a3 (u32 q) (u32 (b + 1 + 1)) (sm_wI w 59 (b + 1) (u32 (min d (1 + min q p)))) := by
  have e1 : (if u32 p < u32 q then u32 p else u32 q) = u32 (min p q) := u32_min (by omega) (by omega)
  have e2 : (if u32 (1 + min p q) < u32 d then u32 (1 + min p q) else u32 d) = u32 (min (1 + min p q) d) := u32_min (by omega) (by omega)
  unfold ff_tr_distanceTo_101
  simp (disch := omega) only [u32_lit, sm_rd_u, bs_, u32_sub, Nat.add_sub_cancel, hp, hq, hd]
  rw [e1, u32_add, e2]
  simp (disch := omega) only [sm_wr_u, bs_, u32_add]
  rw [show min (1 + min p q) d = min d (1 + min q p) by omega]
/-- what is read: the order of S, a row of n at c + 1 -/
def OffC (w : sm_Mem) (c n S : Nat) (o g : Nat → Int32) : Prop := w.1 36 11 = u32 S ∧ (∀ k, k < S → w.1 43 k = o k) ∧ ∀ j, j < n → w.1 (c + 1) j = g j
theorem OffC.fr {w w1 : sm_Mem} {c n S : Nat} {o g : Nat → Int32} (hc : c < 30) (h : OffC w c n S o g) (hf : EFr 59 w w1) : OffC w1 c n S o g := by
  obtain ⟨h1, h2, h3⟩ := h
  exact ⟨by rw [hf.1 36 (by decide)]; exact h1, fun k hk => by rw [hf.1 43 (by decide)]; exact h2 k hk, fun j hj => by rw [hf.1 (c + 1) (by omega)]; exact h3 j hj⟩
theorem tr_row {s36 : Nat → Int32 → Int32 → sm_Mem → sm_R} {c n S k : Nat} {o g : Nat → Int32} (hR : isRow c 40) (hc : c < 30) (hn : n ≤ 8) (hS : S ≤ 8) (hk : k < S) : ∀ (m b F : Nat) (w : sm_Mem), b + m = n → m < F → OffC w c n S o g → (∀ i, i ≤ b → w.1 59 i = u32 (dM o g (k + 1) i)) → (∀ i, b < i → i ≤ n → w.1 59 i = u32 (dM o g k i)) → ∃ w1, ff_tr_distanceTo_67_f s36 F c (u32 n) (u32 k) (u32 (dM o g k b)) (u32 (b + 1)) w = s36 c (u32 n) (u32 (k + 1)) w1 ∧ EFr 59 w w1 ∧ ∀ i, i ≤ n → w1.1 59 i = u32 (dM o g (k + 1) i) := by
  intro m
  induction m with
  | zero =>
    intro b F w hm hF h hp hq
    obtain ⟨F, rfl⟩ : ∃ G, F = G + 1 := ⟨F - 1, by omega⟩
    refine ⟨w, ?_, EFr.refl, fun i hi => hp i (by omega)⟩
    rw [ff_tr_distanceTo_67_f]
    unfold ff_tr_distanceTo_67_b
    simp (disch := omega) only [u32_lit, u32_lt, if_pos, u32_add]
  | succ m ih =>
    intro b F w hm hF h hp hq
    obtain ⟨F, rfl⟩ : ∃ G, F = G + 1 := ⟨F - 1, by omega⟩
    obtain ⟨h1, h2, h3⟩ := id h
    have l1 := dM_le (o := o) (g := g) k (b + 1)
    have l2 := dM_le (o := o) (g := g) (k + 1) b
    have l3 := dM_le (o := o) (g := g) k b
    obtain ⟨w1, a1, a2, a3⟩ := ih (b + 1) F (sm_wI w 59 (b + 1) (u32 (dM o g (k + 1) (b + 1)))) (by omega) (by omega) (h.fr hc EFr.wI) (fun i hi => by
      by_cases e : i = b + 1
      · rw [e, sm_wI_eq]
      · rw [sm_wI_nj e]; exact hp i (by omega)) (fun i hi hi2 => by rw [sm_wI_nj (by omega)]; exact hq i (by omega) hi2)
    refine ⟨w1, ?_, EFr.wI.trans a2, a3⟩
    rw [← a1, ff_tr_distanceTo_67_f]
    unfold ff_tr_distanceTo_67_b
    simp (disch := omega) only [u32_lit, u32_lt, if_neg, sm_rd_u, bs_, h2 k hk, hR.fk, u32_sub, Nat.add_sub_cancel, hR.rds (show b < 40 by omega), h3 b (by omega)]
    rw [dM_ss]
    by_cases e : o k = g b
    · rw [if_pos e, if_pos e, tr_101 (by omega) (hp b (Nat.le_refl _)) (hq (b + 1) (by omega) (by omega)) u32_add (by omega) (by omega) (by omega)]
    · rw [if_neg e, if_neg e, tr_101 (by omega) (hp b (Nat.le_refl _)) (hq (b + 1) (by omega) (by omega)) u32_add (by omega) (by omega) (by omega)]
theorem tr_all {c n S : Nat} {o g : Nat → Int32} (hR : isRow c 40) (hc : c < 30) (hn : n ≤ 8) (hS : S ≤ 8) : ∀ (m k F : Nat) (w : sm_Mem), k + m = S → m < F → OffC w c n S o g → (∀ i, i ≤ n → w.1 59 i = u32 (dM o g k i)) → ∃ w1, ff_tr_distanceTo_36_f F c (u32 n) (u32 k) w = some (.int (u32 (dM o g S n)), w1) ∧ EFr 59 w w1 := by
  intro m
  induction m with
  | zero =>
    intro k F w hm hF h hp
    obtain ⟨F, rfl⟩ : ∃ G, F = G + 1 := ⟨F - 1, by omega⟩
    have e : k = S := by omega
    subst e
    refine ⟨w, ?_, EFr.refl⟩
    rw [ff_tr_distanceTo_36_f]
    unfold ff_tr_distanceTo_36_b
    simp (disch := omega) only [u32_lit, h.1, u32_le, if_pos, sm_rd_u, bs_, hp n (Nat.le_refl _)]
  | succ m ih =>
    intro k F w hm hF h hp
    obtain ⟨F, rfl⟩ : ∃ G, F = G + 1 := ⟨F - 1, by omega⟩
    obtain ⟨w1, a1, a2, a3⟩ := tr_row (s36 := ff_tr_distanceTo_36_f F) hR hc hn hS (show k < S by omega) n 0 1000000 (sm_wI w 59 0 (u32 (k + 1))) (by omega) (by omega) (h.fr hc EFr.wI) (fun i hi => by
      have e : i = 0 := by omega
      rw [e, sm_wI_eq]
      rfl) (fun i hi hi2 => by rw [sm_wI_nj (by omega)]; exact hp i hi2)
    obtain ⟨w2, b1, b2⟩ := ih (k + 1) F w1 (by omega) (by omega) ((h.fr hc EFr.wI).fr hc a2) a3
    refine ⟨w2, ?_, (EFr.wI.trans a2).trans b2⟩
    rw [← b1, ← a1, ff_tr_distanceTo_36_f]
    unfold ff_tr_distanceTo_36_b ff_tr_distanceTo_67
    simp (disch := omega) only [u32_lit, h.1, u32_le, if_neg, sm_rd_u, bs_, hp 0 (Nat.zero_le _), u32_add, sm_wr_u, sm_N_eq, Nat.zero_add]
theorem tr_init {c n : Nat} (hn : n ≤ 8) : ∀ (m j F : Nat) (w : sm_Mem), j + m = n + 1 → m < F → (∀ i, i < j → w.1 59 i = u32 i) → ∃ w1, ff_tr_distanceTo_16_f F c (u32 n) (u32 j) w = ff_tr_distanceTo_36 c (u32 n) (u32 0) w1 ∧ EFr 59 w w1 ∧ ∀ i, i ≤ n → w1.1 59 i = u32 i := by
  intro m
  induction m with
  | zero =>
    intro j F w hm hF hp
    obtain ⟨F, rfl⟩ : ∃ G, F = G + 1 := ⟨F - 1, by omega⟩
    refine ⟨w, ?_, EFr.refl, fun i hi => hp i (by omega)⟩
    rw [ff_tr_distanceTo_16_f]
    unfold ff_tr_distanceTo_16_b
    simp (disch := omega) only [u32_lit, u32_lt, if_pos]
  | succ m ih =>
    intro j F w hm hF hp
    obtain ⟨F, rfl⟩ : ∃ G, F = G + 1 := ⟨F - 1, by omega⟩
    obtain ⟨w1, a1, a2, a3⟩ := ih (j + 1) F (sm_wI w 59 j (u32 j)) (by omega) (by omega) (fun i hi => by
      by_cases e : i = j
      · rw [e, sm_wI_eq]
      · rw [sm_wI_nj e]; exact hp i (by omega))
    refine ⟨w1, ?_, EFr.wI.trans a2, a3⟩
    rw [← a1, ff_tr_distanceTo_16_f]
    unfold ff_tr_distanceTo_16_b
    simp (disch := omega) only [u32_lit, u32_lt, if_neg, sm_wr_u, bs_, u32_add]
theorem tr_distance {c n S : Nat} {o g : Nat → Int32} {w : sm_Mem} (hR : isRow c 40) (hc : c < 30) (hn : n ≤ 8) (hS : S ≤ 8) (hw : w.1 c 1 = u32 n) (h : OffC w c n S o g) : ∃ w1, ff_tr_distanceTo c w = some (.int (u32 (dM o g S n)), w1) ∧ EFr 59 w w1 := by
  have e1 : (if u32 8 < u32 n then u32 8 else u32 n) = u32 n := if_neg (by rw [u32_lt (by omega) (by omega)]; omega)
  have e2 : (if u32 0 < u32 n then u32 n else u32 0) = u32 n := by
    by_cases h0 : n = 0
    · rw [h0]; rfl
    · exact if_pos (by rw [u32_lt (by omega) (by omega)]; omega)
  obtain ⟨w1, a1, a2, a3⟩ := tr_init (c := c) hn (n + 1) 0 1000000 w (by omega) (by omega) (fun i hi => absurd hi (Nat.not_lt_zero _))
  obtain ⟨w2, b1, b2⟩ := tr_all hR hc hn hS S 0 1000000 w1 (by omega) (by omega) (h.fr hc a2) a3
  refine ⟨w2, ?_, a2.trans b2⟩
  rw [← b1]
  unfold ff_tr_distanceTo ff_tr_distanceTo_16
  simp only [u32_lit, hR.gI, bs_, hw]
  rw [e1, e2, sm_N_eq, a1]
  unfold ff_tr_distanceTo_36
  rw [sm_N_eq]
theorem op_off {r : Int32} {w : sm_Mem} (h : R w) : Both (ff_ho_off r) (ff_mo_off r) R w := by
  obtain ⟨hc, B, ds, hh⟩ := id h
  obtain ⟨hok, hn, n1, n2, n6⟩ := hh.n
  rcases aCases r 6 with hr | ⟨r, hr, -, rfl⟩
  · refine BothR_same h (-u32 1) ?_ ?_
    · unfold ff_ho_off ff_ho_refusalOfWords
      simp (disch := omega) only [u32_lit, let_, bs_, cI_, cV_, cL_, sm_rd_u, sm_wr_u, u32_add, u32_mul, u32_sub, u32_le, u32_lt, u32_eq, u32_eq_neg, u32_neg_eq, u32_neg_neg, u32_le_neg, u32_neg_lt, u32_lt_neg, u32_neg_le, u10, u01, u3n0, u1n0, u4n0, n9_lt, n1_lt, n9_neg, n1_neg, if_true, if_false, if_pos, if_neg, ne_eq, not_true_eq_false, not_false_eq_true, ho_within_bad hr]
    · unfold ff_mo_off
      simp (disch := omega) only [u32_lit, let_, bs_, cI_, cV_, cL_, sm_rd_u, sm_wr_u, u32_add, u32_mul, u32_sub, u32_le, u32_lt, u32_eq, u32_eq_neg, u32_neg_eq, u32_neg_neg, u32_le_neg, u32_neg_lt, u32_lt_neg, u32_neg_le, u10, u01, u3n0, u1n0, u4n0, n9_lt, n1_lt, n9_neg, n1_neg, if_true, if_false, if_pos, if_neg, ne_eq, not_true_eq_false, not_false_eq_true, mo_isRow_bad hr]
  have hR := isRow_row hr
  obtain ⟨c1, c2, c3⟩ := ho_refW (most := 8) hr (by omega) n1 n6
  have cref : ∀ v w1, ff_ho_refusalOfWords (u32 r) (u32 8) w = some (.int v, w1) → ¬ v = u32 0 → ff_ho_off (u32 r) w = some (.int v, w1) := fun v w1 e hv => by
    unfold ff_ho_off
    simp only [u32_lit, e, cI_, if_neg hv]
  have e4 : ¬ -u32 4 = u32 0 := by decide
  have e3 : ¬ -u32 3 = u32 0 := by decide
  have hwr : ∀ f, (wcRef f w).1 62 1 = u32 B.1 := fun f => by rw [wcRef_ne (by decide) (by decide)]; exact n2
  have hw67 : ∀ f, (wcRef f w).1 67 = w.1 67 := fun f => wcRef_ne (by decide) (by decide)
  have hw68 : ∀ f, (wcRef f w).1 68 = w.1 68 := fun f => wcRef_ne (by decide) (by decide)
  by_cases h0 : B.1 = 0
  · exact BothR_same h (-u32 4) (cref _ _ (c1 h0) e4) ((mo_off_ref hr n2 n6).1 h0)
  have h0 : 0 < B.1 := by omega
  rcases (hc.1 r hr).cases with ⟨hcc, hm⟩ | ⟨n, hn40, hcc, hm, he⟩
  · exact BothR_ref h 1 (cref _ _ (c2 h0 hcc) e3) ((mo_off_ref hr (hwr 1) n6).2.1 h0 (by rw [hw67]; exact hm))
  obtain ⟨d1, d2⟩ := c3 n hn40 h0 hcc
  by_cases hs : n ≤ 8
  · have eq : allW (w.1 (2 + 2 * r + 1)) 0 n = allW (fun j => w.1 68 (40 * r + j)) 0 n := allW_congr _ _ (fun j h1 h2 => he j (by omega))
    have d3 := d2 hs
    cases ha : allW (w.1 (2 + 2 * r + 1)) 0 n with
    | false =>
      rw [ha, if_neg (by decide)] at d3
      have := ((mo_off_ref hr (hwr 3) n6).2.2 n hn40 h0 (by rw [hw67]; exact hm)).2 hs
      rw [hw68, ← eq, ha, if_neg (by decide)] at this
      exact BothR_ref h 3 (cref _ _ d3 e3) this
    | true =>
      rw [ha, if_pos rfl] at d3
      have h8 := hok.2.2.2.1
      have hC := hh.2.2.2.2.2.1.1
      have hM := hh.2.2.2.2.2.2.2.1.2.1.1
      obtain ⟨w1, a1, a2⟩ := tr_distance (n := n) (S := (hO (playV B ds).1).length) (o := fun k => u32 (ordAt (hO (playV B ds).1) k).1) (g := fun j => w.1 68 (40 * r + j)) (w := w) hR (by omega) hs h8 hcc ⟨hC.2.2.2.1, fun k hk => (ordC_at _ k hk hC.2.2.2.2).1, fun j hj => he j hj⟩
      have hO1 : OffM w1 r n (hO (playV B ds).1).length (fun k => u32 (ordAt (hO (playV B ds).1) k).1) (fun j => w.1 68 (40 * r + j)) := by
        refine ⟨by rw [a2.1 67 (by decide)]; exact hm, ?_, fun k hk => ?_, fun j => by rw [a2.1 68 (by decide)]⟩
        · have := hM.2.2.2.1
          rw [Nat.zero_add] at this
          rw [a2.1 63 (by decide)]; exact this
        · have := (ordM_at _ k hk hM.2.2.2.2).1
          rw [Nat.zero_add] at this
          rw [a2.1 63 (by decide)]; exact this
      obtain ⟨w2, b1, b2⟩ := mo_off_all hr hs h8 ((hO (playV B ds).1).length + 1) 0 1000000 w1 (by omega) (by omega) hO1 (fun i j hi => absurd hi (Nat.not_lt_zero _))
      have hclass : ff_ho_off (u32 r) w = some (.int (u32 (dM (fun k => u32 (ordAt (hO (playV B ds).1) k).1) (fun j => w.1 68 (40 * r + j)) (hO (playV B ds).1).length n)), w1) := by
        unfold ff_ho_off
        simp only [u32_lit, d3, cI_, if_true, rr_row hr, bs_, a1]
      have hmodel : ff_mo_off (u32 r) w1 = some (.int (u32 (dM (fun k => u32 (ordAt (hO (playV B ds).1) k).1) (fun j => w.1 68 (40 * r + j)) (hO (playV B ds).1).length n)), w2) := by
        have := ((mo_off_ref (w := w1) hr (by rw [a2.1 62 (by decide)]; exact n2) n6).2.2 n hn40 h0 (by rw [a2.1 67 (by decide)]; exact hm)).2 hs
        rw [a2.1 68 (by decide), ← eq, ha, if_pos rfl] at this
        rw [this]
        unfold ff_mo_off_113
        rw [sm_N_eq]
        exact b1
      refine Both_mk _ w1 w2 hclass hmodel (R_done hc hh ⟨fun a ha => a2.1 a (by omega), fun j _ => by rw [a2.1 36 (by decide)], by rw [a2.1 60 (by decide)]⟩ (CH_fr (fun a h1 h2 => a2.1 a (by omega)) hC) ⟨fun a ha => b2.1 a (by omega), by rw [b2.1 62 (by decide)], by rw [b2.1 62 (by decide)]⟩ ?_ ?_ ?_)
      · rw [b2.1 62 (by decide), a2.1 62 (by decide), a2.1 60 (by decide)]
        exact hc.2.2.1
      · rw [b2.2, a2.2]
        exact hc.2.2.2.1
      · rw [b2.2, a2.2]
        exact hc.2.2.2.2.1
  · have hs : 8 < n := by omega
    exact BothR_ref h 5 (cref _ _ (d1 hs) e3) (((mo_off_ref hr (hwr 5) n6).2.2 n hn40 h0 (by rw [hw67]; exact hm)).1 hs)
