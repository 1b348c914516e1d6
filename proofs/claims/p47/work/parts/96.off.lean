/-! pure: how far an order is from a row -/
def dRow (o : Int32) (g : Nat → Int32) (pv : Nat → Nat) (st : Nat) : Nat → Nat
  | 0 => st
  | b + 1 => min (pv b + (if o = g b then 0 else 1)) (1 + min (pv (b + 1)) (dRow o g pv st b))
def dM (o g : Nat → Int32) : Nat → Nat → Nat
  | 0 => fun b => b
  | a + 1 => dRow (o a) g (dM o g a) (a + 1)
theorem dRow_le {o : Int32} {g : Nat → Int32} {pv : Nat → Nat} {a : Nat} (h : ∀ b, pv b ≤ a + b) : ∀ b, dRow o g pv (a + 1) b ≤ a + 1 + b
  | 0 => Nat.le_refl _
  | b + 1 => by
    have h1 := h b
    rw [dRow]
    refine Nat.le_trans (Nat.min_le_left _ _) ?_
    by_cases e : o = g b
    · rw [if_pos e]; omega
    · rw [if_neg e]; omega
theorem dM_le {o g : Nat → Int32} : ∀ (a b : Nat), dM o g a b ≤ a + b
  | 0, b => by
    show b ≤ 0 + b
    omega
  | a + 1, b => by
    rw [dM]
    exact dRow_le (fun c => dM_le a c) b
theorem dM_ss {o g : Nat → Int32} {a b : Nat} : dM o g (a + 1) (b + 1) = min (dM o g a b + (if o a = g b then 0 else 1)) (1 + min (dM o g a (b + 1)) (dM o g (a + 1) b)) := rfl
theorem u32_min {a b : Nat} (ha : a < 2147483648) (hb : b < 2147483648) : (if u32 a < u32 b then u32 a else u32 b) = u32 (min a b) := by
  by_cases h : a < b
  · rw [if_pos (by rw [u32_lt ha hb]; exact h), Nat.min_eq_left (by omega)]
  · rw [if_neg (by rw [u32_lt ha hb]; exact h), Nat.min_eq_right (by omega)]
/-! by the reference -/
def EFr (k : Nat) (w w1 : sm_Mem) : Prop := (∀ a, a ≠ k → w1.1 a = w.1 a) ∧ w1.2 = w.2
theorem EFr.refl {k : Nat} {w : sm_Mem} : EFr k w w := ⟨fun _ _ => rfl, rfl⟩
theorem EFr.trans {k : Nat} {w w1 w2 : sm_Mem} (h1 : EFr k w w1) (h2 : EFr k w1 w2) : EFr k w w2 := ⟨fun a ha => (h2.1 a ha).trans (h1.1 a ha), h2.2.trans h1.2⟩
theorem EFr.wI {k j : Nat} {w : sm_Mem} {x : Int32} : EFr k w (sm_wI w k j x) := ⟨fun a ha => sm_wI_ne ha, rfl⟩
/-! by the class -/
theorem tr_101 {s36 : Nat → Int32 → Int32 → sm_Mem → sm_R} {s67 : Nat → Int32 → Int32 → Int32 → Int32 → sm_Mem → sm_R} {c b p q d : Nat} {a2 a3 b0 b1 : Int32} {w : sm_Mem} (hb : b + 1 < 9) (hp : w.1 59 b = u32 p) (hq : w.1 59 (b + 1) = u32 q) (hd : b0 + b1 = u32 d) (p1 : p < 1000) (q1 : q < 1000) (d1 : d < 1000) : ff_tr_distanceTo_101 s36 s67 c a2 a3 (u32 (b + 1)) b0 b1 w = s67 c a2 a3 (u32 q) (u32 (b + 1 + 1)) (sm_wI w 59 (b + 1) (u32 (min d (1 + min q p)))) := by
  have e1 : (if u32 p < u32 q then u32 p else u32 q) = u32 (min p q) := u32_min (by omega) (by omega)
  have e2 : (if u32 (1 + min p q) < u32 d then u32 (1 + min p q) else u32 d) = u32 (min (1 + min p q) d) := u32_min (by omega) (by omega)
  unfold ff_tr_distanceTo_101
  simp (disch := omega) only [u32_lit, sm_rd_u, bs_, u32_sub, Nat.add_sub_cancel, hp, hq, hd]
  rw [e1, u32_add, e2]
  simp (disch := omega) only [sm_wr_u, bs_, u32_add]
  rw [show min (1 + min p q) d = min d (1 + min q p) by omega]
/-- what is read: the order of S, a row of n at c + 1 -/
def OffC (w : sm_Mem) (c n S : Nat) (o g : Nat → Int32) : Prop := w.1 36 11 = u32 S ∧ (∀ k, k < S → w.1 43 k = o k) ∧ ∀ j, j < n → w.1 (c + 1) j = g j
theorem OffC.fr {w w1 : sm_Mem} {c n S : Nat} {o g : Nat → Int32} (hc : c < 30) (h : OffC w c n S o g) (hf : EFr 59 w w1) : OffC w1 c n S o g := by
  obtain ⟨h1, h2, h3⟩ := h
  exact ⟨by rw [hf.1 36 (by decide)]; exact h1, fun k hk => by rw [hf.1 43 (by decide)]; exact h2 k hk, fun j hj => by rw [hf.1 (c + 1) (by omega)]; exact h3 j hj⟩
theorem tr_row {s36 : Nat → Int32 → Int32 → sm_Mem → sm_R} {c n S k : Nat} {o g : Nat → Int32} (hR : isRow c 40) (hc : c < 30) (hn : n ≤ 8) (hS : S ≤ 8) (hk : k < S) : ∀ (m b F : Nat) (w : sm_Mem), b + m = n → m < F → OffC w c n S o g → (∀ i, i ≤ b → w.1 59 i = u32 (dM o g (k + 1) i)) → (∀ i, b < i → i ≤ n → w.1 59 i = u32 (dM o g k i)) → ∃ w1, ff_tr_distanceTo_67_f s36 F c (u32 n) (u32 k) (u32 (dM o g k b)) (u32 (b + 1)) w = s36 c (u32 n) (u32 (k + 1)) w1 ∧ EFr 59 w w1 ∧ ∀ i, i ≤ n → w1.1 59 i = u32 (dM o g (k + 1) i) := by
  intro m
  induction m with
  | zero =>
    intro b F w hm hF h hp hq
    obtain ⟨F, rfl⟩ : ∃ G, F = G + 1 := ⟨F - 1, by omega⟩
    refine ⟨w, ?_, EFr.refl, fun i hi => hp i (by omega)⟩
    rw [ff_tr_distanceTo_67_f]
    unfold ff_tr_distanceTo_67_b
    simp (disch := omega) only [u32_lit, u32_lt, if_pos, u32_add]
  | succ m ih =>
    intro b F w hm hF h hp hq
    obtain ⟨F, rfl⟩ : ∃ G, F = G + 1 := ⟨F - 1, by omega⟩
    obtain ⟨h1, h2, h3⟩ := id h
    have l1 := dM_le (o := o) (g := g) k (b + 1)
    have l2 := dM_le (o := o) (g := g) (k + 1) b
    have l3 := dM_le (o := o) (g := g) k b
    obtain ⟨w1, a1, a2, a3⟩ := ih (b + 1) F (sm_wI w 59 (b + 1) (u32 (dM o g (k + 1) (b + 1)))) (by omega) (by omega) (h.fr hc EFr.wI) (fun i hi => by
      by_cases e : i = b + 1
      · rw [e, sm_wI_eq]
      · rw [sm_wI_nj e]; exact hp i (by omega)) (fun i hi hi2 => by rw [sm_wI_nj (by omega)]; exact hq i (by omega) hi2)
    refine ⟨w1, ?_, EFr.wI.trans a2, a3⟩
    rw [← a1, ff_tr_distanceTo_67_f]
    unfold ff_tr_distanceTo_67_b
    simp (disch := omega) only [u32_lit, u32_lt, if_neg, sm_rd_u, bs_, h2 k hk, hR.fk, u32_sub, Nat.add_sub_cancel, hR.rds (show b < 40 by omega), h3 b (by omega)]
    rw [dM_ss]
    by_cases e : o k = g b
    · rw [if_pos e, if_pos e, tr_101 (by omega) (hp b (Nat.le_refl _)) (hq (b + 1) (by omega) (by omega)) u32_add (by omega) (by omega) (by omega)]
    · rw [if_neg e, if_neg e, tr_101 (by omega) (hp b (Nat.le_refl _)) (hq (b + 1) (by omega) (by omega)) u32_add (by omega) (by omega) (by omega)]
theorem tr_all {c n S : Nat} {o g : Nat → Int32} (hR : isRow c 40) (hc : c < 30) (hn : n ≤ 8) (hS : S ≤ 8) : ∀ (m k F : Nat) (w : sm_Mem), k + m = S → m < F → OffC w c n S o g → (∀ i, i ≤ n → w.1 59 i = u32 (dM o g k i)) → ∃ w1, ff_tr_distanceTo_36_f F c (u32 n) (u32 k) w = some (.int (u32 (dM o g S n)), w1) ∧ EFr 59 w w1 := by
  intro m
  induction m with
  | zero =>
    intro k F w hm hF h hp
    obtain ⟨F, rfl⟩ : ∃ G, F = G + 1 := ⟨F - 1, by omega⟩
    have e : k = S := by omega
    subst e
    refine ⟨w, ?_, EFr.refl⟩
    rw [ff_tr_distanceTo_36_f]
    unfold ff_tr_distanceTo_36_b
    simp (disch := omega) only [u32_lit, h.1, u32_le, if_pos, sm_rd_u, bs_, hp n (Nat.le_refl _)]
  | succ m ih =>
    intro k F w hm hF h hp
    obtain ⟨F, rfl⟩ : ∃ G, F = G + 1 := ⟨F - 1, by omega⟩
    obtain ⟨w1, a1, a2, a3⟩ := tr_row (s36 := ff_tr_distanceTo_36_f F) hR hc hn hS (show k < S by omega) n 0 1000000 (sm_wI w 59 0 (u32 (k + 1))) (by omega) (by omega) (h.fr hc EFr.wI) (fun i hi => by
      have e : i = 0 := by omega
      rw [e, sm_wI_eq]
      rfl) (fun i hi hi2 => by rw [sm_wI_nj (by omega)]; exact hp i hi2)
    obtain ⟨w2, b1, b2⟩ := ih (k + 1) F w1 (by omega) (by omega) ((h.fr hc EFr.wI).fr hc a2) a3
    refine ⟨w2, ?_, (EFr.wI.trans a2).trans b2⟩
    rw [← b1, ← a1, ff_tr_distanceTo_36_f]
    unfold ff_tr_distanceTo_36_b ff_tr_distanceTo_67
    simp (disch := omega) only [u32_lit, h.1, u32_le, if_neg, sm_rd_u, bs_, hp 0 (Nat.zero_le _), u32_add, sm_wr_u, sm_N_eq, Nat.zero_add]
theorem tr_init {c n : Nat} (hn : n ≤ 8) : ∀ (m j F : Nat) (w : sm_Mem), j + m = n + 1 → m < F → (∀ i, i < j → w.1 59 i = u32 i) → ∃ w1, ff_tr_distanceTo_16_f F c (u32 n) (u32 j) w = ff_tr_distanceTo_36 c (u32 n) (u32 0) w1 ∧ EFr 59 w w1 ∧ ∀ i, i ≤ n → w1.1 59 i = u32 i := by
  intro m
  induction m with
  | zero =>
    intro j F w hm hF hp
    obtain ⟨F, rfl⟩ : ∃ G, F = G + 1 := ⟨F - 1, by omega⟩
    refine ⟨w, ?_, EFr.refl, fun i hi => hp i (by omega)⟩
    rw [ff_tr_distanceTo_16_f]
    unfold ff_tr_distanceTo_16_b
    simp (disch := omega) only [u32_lit, u32_lt, if_pos]
  | succ m ih =>
    intro j F w hm hF hp
    obtain ⟨F, rfl⟩ : ∃ G, F = G + 1 := ⟨F - 1, by omega⟩
    obtain ⟨w1, a1, a2, a3⟩ := ih (j + 1) F (sm_wI w 59 j (u32 j)) (by omega) (by omega) (fun i hi => by
      by_cases e : i = j
      · rw [e, sm_wI_eq]
      · rw [sm_wI_nj e]; exact hp i (by omega))
    refine ⟨w1, ?_, EFr.wI.trans a2, a3⟩
    rw [← a1, ff_tr_distanceTo_16_f]
    unfold ff_tr_distanceTo_16_b
    simp (disch := omega) only [u32_lit, u32_lt, if_neg, sm_wr_u, bs_, u32_add]
theorem tr_distance {c n S : Nat} {o g : Nat → Int32} {w : sm_Mem} (hR : isRow c 40) (hc : c < 30) (hn : n ≤ 8) (hS : S ≤ 8) (hw : w.1 c 1 = u32 n) (h : OffC w c n S o g) : ∃ w1, ff_tr_distanceTo c w = some (.int (u32 (dM o g S n)), w1) ∧ EFr 59 w w1 := by
  have e1 : (if u32 8 < u32 n then u32 8 else u32 n) = u32 n := if_neg (by rw [u32_lt (by omega) (by omega)]; omega)
  have e2 : (if u32 0 < u32 n then u32 n else u32 0) = u32 n := by
    by_cases h0 : n = 0
    · rw [h0]; rfl
    · exact if_pos (by rw [u32_lt (by omega) (by omega)]; omega)
  obtain ⟨w1, a1, a2, a3⟩ := tr_init (c := c) hn (n + 1) 0 1000000 w (by omega) (by omega) (fun i hi => absurd hi (Nat.not_lt_zero _))
  obtain ⟨w2, b1, b2⟩ := tr_all hR hc hn hS S 0 1000000 w1 (by omega) (by omega) (h.fr hc a2) a3
  refine ⟨w2, ?_, a2.trans b2⟩
  rw [← b1]
  unfold ff_tr_distanceTo ff_tr_distanceTo_16
  simp only [u32_lit, hR.gI, bs_, hw]
  rw [e1, e2, sm_N_eq, a1]
  unfold ff_tr_distanceTo_36
  rw [sm_N_eq]
