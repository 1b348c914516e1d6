/-! pure: lots -/
def u64 (n : Nat) : Int64 := Int64.ofNat n
theorem u64_toInt {a : Nat} (h : a < 9223372036854775808) : (u64 a).toInt = (a : Int) := Int64.toInt_ofNat_of_lt h
theorem u64_lit (n : Nat) : @OfNat.ofNat Int64 (no_index n) Int64.instOfNat = u64 n := (Eq.refl (u64 n)).trans (Eq.refl (u64 n))
theorem u64_mul {a b : Nat} : u64 a * u64 b = u64 (a * b) := (Int64.ofNat_mul a b).symm
theorem u64_add {a b : Nat} : u64 a + u64 b = u64 (a + b) := (Int64.ofNat_add a b).symm
theorem u64_sub {a b : Nat} (h : b ≤ a) : u64 a - u64 b = u64 (a - b) := by
  have e : u64 a = u64 (a - b) + u64 b := by rw [u64_add, Nat.sub_add_cancel h]
  rw [e, Int64.add_sub_cancel]
theorem u64_div {a b : Nat} (ha : a < 9223372036854775808) (hb : b < 9223372036854775808) : u64 a / u64 b = u64 (a / b) := by
  have h3 : a / b < 9223372036854775808 := Nat.lt_of_le_of_lt (Nat.div_le_self a b) ha
  apply Int64.toInt_inj.mp
  rw [Int64.toInt_div, u64_toInt ha, u64_toInt hb, u64_toInt h3]
  rw [← Int.ofNat_tdiv]
  generalize a / b = q at h3 ⊢
  exact Int.bmod_eq_of_le (by omega) (by omega)
theorem u64_rem {a b : Nat} (ha : a < 9223372036854775808) (hb : b < 9223372036854775808) : u64 a - u64 a / u64 b * u64 b = u64 (a % b) := by
  have h1 : a / b * b ≤ a := Nat.div_mul_le_self a b
  rw [u64_div ha hb, u64_mul, u64_sub h1]
  have h2 := Nat.div_add_mod a b
  rw [Nat.mul_comm] at h2
  rw [show a - a / b * b = a % b by omega]
theorem u64_eq {a b : Nat} (ha : a < 9223372036854775808) (hb : b < 9223372036854775808) : (u64 a = u64 b) = (a = b) := by
  refine propext ⟨fun h => ?_, fun h => by rw [h]⟩
  have := congrArg Int64.toInt h
  rw [u64_toInt ha, u64_toInt hb] at this
  exact Int.ofNat_inj.mp this
theorem u64_32 {a : Nat} (ha : a < 2147483648) : (u64 a).toInt32 = u32 a := by
  apply Int32.toInt_inj.mp
  rw [Int64.toInt_toInt32, u64_toInt (by omega), u32_toInt ha]
  exact Int.bmod_eq_of_le (by omega) (by omega)
theorem u32_64 {a : Nat} (ha : a < 2147483648) : (u32 a).toInt64 = u64 a := u32_long ha
def CS (w : sm_Mem) (B : HBase) (ds : List Deed) : Prop := BOk B ∧ CB w B ∧ ds.length ≤ 40 ∧ validV B ds ∧ CHX w (playV B ds) ∧ CD w 45 ds
def MS (w : sm_Mem) (B : HBase) (ds : List Deed) : Prop := BOk B ∧ MB w B ∧ ds.length ≤ 40 ∧ validV B ds ∧ MKept w B 0 ds
def CFr (w w1 : sm_Mem) : Prop := (∀ a, (a < 36 ∨ 48 < a ∨ a = 37 ∨ a = 38 ∨ a = 39 ∨ a = 40) → w1.1 a = w.1 a) ∧ w1.2 = w.2
theorem CFr.refl {w : sm_Mem} : CFr w w := ⟨fun _ _ => rfl, rfl⟩
theorem CFr.trans {w w1 w2 : sm_Mem} (h1 : CFr w w1) (h2 : CFr w1 w2) : CFr w w2 := ⟨fun a ha => (h2.1 a ha).trans (h1.1 a ha), h2.2.trans h1.2⟩
theorem CS_enact {B : HBase} {ds : List Deed} {d : Deed} {w : sm_Mem} (h : CS w B ds) (hl : ds.length < 40) (hd : okD (playV B ds) d) : ∃ w1, ff_hs_enact (u32 d.1) (u32 d.2.1) (u32 d.2.2) w = some (.null, w1) ∧ CS w1 B (d :: ds) ∧ CFr w w1 := by
  obtain ⟨h1, h2, h4, h5, h6, h7⟩ := h
  obtain ⟨hok, hn⟩ := playV_ok h1 ds h4 h5
  have hsm := playV_small (B := B) ds
  obtain ⟨w1, a1, a2, a3, a4⟩ := de_add (d := d) hl h7
  obtain ⟨w2, b1, b2, b3⟩ := hs_perform (w := w1) ⟨CH_fr (fun a c1 c2 => a3 a (by omega)) h6.1, by rw [a3 36 (by omega)]; exact h6.2⟩ hok hn (fun i hi => by rw [a3 39 (by omega), a3 40 (by omega)]; exact h2 i hi) hd (by omega) (by omega)
  refine ⟨w2, ?_, ⟨h1, fun i hi => ?_, by rw [List.length_cons]; omega, ⟨hd, h5⟩, b2, ⟨by rw [b3.1 45 (by omega)]; exact a2.1, CDl_fr _ (fun j _ => ?_) a2.2⟩⟩, fun a ha => by rw [b3.1 a (by omega), a3 a (by omega)], b3.2.1.trans a4⟩
  · unfold ff_hs_enact
    rw [a1, sm_cV_some, b1]
    rfl
  · rw [b3.1 39 (by omega), b3.1 40 (by omega), a3 39 (by omega), a3 40 (by omega)]
    exact h2 i hi
  · rw [b3.1 (45 + 1) (by omega), b3.1 (45 + 2) (by omega), b3.1 (45 + 3) (by omega)]
    exact ⟨rfl, rfl, rfl⟩
def lotStep (B : HBase) (ds : List Deed) (L : Nat) : Deed := if canV (playV B ds).1 (L / 8 % B.1) (L / 64 % 6) = true then (0, L / 8 % B.1, L / 64 % 6) else if 4 ≤ (hO (playV B ds).1).length then (1, 0, 0) else (2, 0, 0)
def lotsV (B : HBase) : Nat → Nat → List Deed → List Deed
  | 0, _, ds => ds
  | m + 1, L, ds => lotsV B m (L * 48271 % 2147483647) (lotStep B ds (L * 48271 % 2147483647) :: ds)
theorem lotStep_ok {B : HBase} {ds : List Deed} {L : Nat} (hB : BOk B) (hl : ds.length ≤ 40) (hv : validV B ds) (h0 : 0 < B.1) : okD (playV B ds) (lotStep B ds L) := by
  obtain ⟨hok, hn⟩ := playV_ok hB ds hl hv
  unfold lotStep
  split
  · rename_i hc
    exact Or.inl ⟨rfl, by rw [hn]; exact Nat.mod_lt _ h0, Nat.mod_lt _ (by decide), hc⟩
  · split
    · exact Or.inr (Or.inl ⟨rfl, rfl, rfl⟩)
    · exact Or.inr (Or.inr (Or.inl ⟨rfl, rfl, rfl⟩))
theorem lotsV_len {B : HBase} : ∀ (m L : Nat) (ds : List Deed), (lotsV B m L ds).length = ds.length + m
  | 0, _, _ => rfl
  | m + 1, L, ds => by
    rw [lotsV, lotsV_len m, List.length_cons]
    omega
theorem hs_enactLot {B : HBase} {ds : List Deed} {L : Nat} {w : sm_Mem} (h : CS w B ds) (hl : ds.length < 40) (h0 : 0 < B.1) (hL : L < 2147483648) : ∃ w1, ff_hs_enactLot (u64 L) w = some (.null, w1) ∧ CS w1 B (lotStep B ds L :: ds) ∧ CFr w w1 := by
  obtain ⟨h1, h2, h4, h5, h6, h7⟩ := id h
  obtain ⟨hok, hn⟩ := playV_ok h1 ds h4 h5
  have h6' := h1.1
  have n1 : w.1 36 0 = u32 B.1 := by rw [← hn]; exact h6.1.1
  obtain ⟨w1, a1, a2, a3⟩ := CS_enact h hl (lotStep_ok (L := L) h1 h4 h5 h0)
  refine ⟨w1, ?_, a2, a3⟩
  have hi : L / 8 % B.1 < B.1 := Nat.mod_lt _ h0
  have hx : L / 64 % 6 < 6 := Nat.mod_lt _ (by decide)
  have e8 : u64 L / u64 8 = u64 (L / 8) := u64_div (by omega) (by omega)
  have e64 : u64 L / u64 64 = u64 (L / 64) := u64_div (by omega) (by omega)
  have ei : (u64 (L / 8) - u64 (L / 8) / (u32 B.1).toInt64 * (u32 B.1).toInt64).toInt32 = u32 (L / 8 % B.1) := by
    rw [u32_64 (by omega), u64_rem (by omega) (by omega), u64_32 (by omega)]
  have ex : (u64 (L / 64) - u64 (L / 64) / u64 6 * u64 6).toInt32 = u32 (L / 64 % 6) := by
    rw [u64_rem (by omega) (by omega), u64_32 (by omega)]
  have z8 : (u64 8 = u64 0) = False := eq_false (by decide)
  have z64 : (u64 64 = u64 0) = False := eq_false (by decide)
  have z6 : (u64 6 = u64 0) = False := eq_false (by decide)
  have zn : ((u32 B.1).toInt64 = u64 0) = False := by
    rw [u32_64 (by omega), u64_eq (by omega) (by omega)]
    exact eq_false (by omega)
  have hc := ho_can h6.1 hok (show L / 8 % B.1 < hN (playV B ds).1 by omega) hx
  unfold ff_hs_enactLot
  simp (disch := omega) only [u32_lit, u64_lit, n1, u32_lt, h0, if_true, z8, z64, z6, zn, if_false, e8, e64, ei, ex, hc, sm_cI_some, u32_bool_eq0, h6.1.2.2.2.1]
  unfold lotStep at a1
  by_cases hcv : canV (playV B ds).1 (L / 8 % B.1) (L / 64 % 6) = true
  · rw [if_pos hcv] at a1
    rw [if_neg (by rw [hcv]; decide), a1]
    rfl
  · rw [if_neg hcv] at a1
    rw [if_pos (by simpa using hcv)]
    have l8 := hok.2.2.2.1
    simp (disch := omega) only [u32_lt]
    by_cases h4' : 4 ≤ (hO (playV B ds).1).length
    · rw [if_pos h4'] at a1
      rw [if_neg (by omega), a1]
      rfl
    · rw [if_neg h4'] at a1
      rw [if_pos (by omega), a1]
      rfl
theorem ho_lots_loop {B : HBase} {n : Nat} (h0 : 0 < B.1) (hn : n ≤ 20) : ∀ (m k F L : Nat) (ds : List Deed) (w : sm_Mem), k + m = n → m < F → L < 2147483648 → ds.length + m ≤ 40 → CS w B ds → ∃ w1, ff_ho_lots_66_f F (u32 n) (u64 L) (u32 k) w = some (.int (u32 (hO (playV B (lotsV B m L ds)).1).length), w1) ∧ CS w1 B (lotsV B m L ds) ∧ CFr w w1 := by
  intro m
  induction m with
  | zero =>
    intro k F L ds w hk hF hL hl h
    obtain ⟨F, rfl⟩ : ∃ G, F = G + 1 := ⟨F - 1, by omega⟩
    refine ⟨w, ?_, h, CFr.refl⟩
    rw [ff_ho_lots_66_f]
    unfold ff_ho_lots_66_b
    simp (disch := omega) only [u32_lit, sm_let_eq, sm_bind_some, sm_cI_some, sm_cV_some, sm_cL_some, sm_rd_u, sm_wr_u, u32_add, u32_mul, u32_sub, u32_le, u32_lt, u32_eq, u32_eq_neg, u32_neg_eq, u32_neg_neg, u32_le_neg, u32_neg_lt, u32_lt_neg, u32_neg_le, u10, u01, u3n0, u1n0, u4n0, n9_lt, n1_lt, n9_neg, n1_neg, if_true, if_false, if_pos, if_neg, ne_eq, not_true_eq_false, not_false_eq_true, h.2.2.2.2.1.1.2.2.2.1, lotsV]
  | succ m ih =>
    intro k F L ds w hk hF hL hl h
    obtain ⟨F, rfl⟩ : ∃ G, F = G + 1 := ⟨F - 1, by omega⟩
    have hL2 : L * 48271 % 2147483647 < 2147483648 := by
      have := Nat.mod_lt (L * 48271) (show 2147483647 > 0 by decide)
      omega
    obtain ⟨w1, a1, a2, a3⟩ := hs_enactLot h (by omega) h0 hL2
    obtain ⟨w2, b1, b2, b3⟩ := ih (k + 1) F (L * 48271 % 2147483647) _ w1 (by omega) (by omega) hL2 (by rw [List.length_cons]; omega) a2
    refine ⟨w2, ?_, b2, a3.trans b3⟩
    have zm : (u64 2147483647 = u64 0) = False := eq_false (by decide)
    have er : u64 L * u64 48271 - u64 L * u64 48271 / u64 2147483647 * u64 2147483647 = u64 (L * 48271 % 2147483647) := by
      rw [u64_mul, u64_rem (by omega) (by omega)]
    rw [ff_ho_lots_66_f]
    unfold ff_ho_lots_66_b
    simp (disch := omega) only [u32_lit, u64_lit, u32_le, if_neg, zm, if_false, er, a1, sm_cV_some, u32_add]
    exact b1
theorem mo_lots_loop {B : HBase} {n : Nat} (h0 : 0 < B.1) (hn : n ≤ 20) : ∀ (m k F L : Nat) (ds : List Deed) (w : sm_Mem), k + m = n → m < F → L < 2147483648 → ds.length + m ≤ 40 → MS w B ds → ∃ w1, ff_mo_lots_58_f F (u32 n) (u64 L) (u32 k) w = some (.int (u32 (hO (playV B (lotsV B m L ds)).1).length), w1) ∧ MS w1 B (lotsV B m L ds) ∧ QFr (fun j => 1272 ≤ j) w w1 := by
  intro m
  induction m with
  | zero =>
    intro k F L ds w hk hF hL hl h
    obtain ⟨F, rfl⟩ : ∃ G, F = G + 1 := ⟨F - 1, by omega⟩
    refine ⟨w, ?_, h, QFr.refl⟩
    have m2 := h.2.2.2.2.2.1.1.2.2.2.1
    rw [Nat.zero_add] at m2
    rw [ff_mo_lots_58_f]
    unfold ff_mo_lots_58_b
    simp (disch := omega) only [u32_lit, sm_let_eq, sm_bind_some, sm_cI_some, sm_cV_some, sm_cL_some, sm_rd_u, sm_wr_u, u32_add, u32_mul, u32_sub, u32_le, u32_lt, u32_eq, u32_eq_neg, u32_neg_eq, u32_neg_neg, u32_le_neg, u32_neg_lt, u32_lt_neg, u32_neg_le, u10, u01, u3n0, u1n0, u4n0, n9_lt, n1_lt, n9_neg, n1_neg, if_true, if_false, if_pos, if_neg, ne_eq, not_true_eq_false, not_false_eq_true, m2, lotsV]
  | succ m ih =>
    intro k F L ds w hk hF hL hl h
    obtain ⟨F, rfl⟩ : ∃ G, F = G + 1 := ⟨F - 1, by omega⟩
    have hL2 : L * 48271 % 2147483647 < 2147483648 := by
      have := Nat.mod_lt (L * 48271) (show 2147483647 > 0 by decide)
      omega
    obtain ⟨h1, h3, h4, h5, h8⟩ := id h
    obtain ⟨hok, hnn⟩ := playV_ok h1 ds h4 h5
    have h6' := h1.1
    have n2 : w.1 62 1 = u32 B.1 := by rw [← hnn]; exact h8.2.1.1.1
    have m2 := h8.2.1.1.2.2.2.1
    rw [Nat.zero_add] at m2
    have l8 := hok.2.2.2.1
    have hstep : ∀ w1, MKept w1 B 0 (lotStep B ds (L * 48271 % 2147483647) :: ds) → QFr (fun j => 1272 ≤ j) w w1 → ∃ w2, ff_mo_lots_58_f F (u32 n) (u64 (L * 48271 % 2147483647)) (u32 (k + 1)) w1 = some (.int (u32 (hO (playV B (lotsV B (m + 1) L ds)).1).length), w2) ∧ MS w2 B (lotsV B (m + 1) L ds) ∧ QFr (fun j => 1272 ≤ j) w w2 := by
      intro w1 a1 a2
      obtain ⟨w2, b1, b2, b3⟩ := ih (k + 1) F (L * 48271 % 2147483647) (lotStep B ds (L * 48271 % 2147483647) :: ds) w1 (by omega) (by omega) hL2 (by rw [List.length_cons]; omega) ⟨h1, fun i hi => by rw [a2.1 66 (by decide)]; exact h3 i hi, by rw [List.length_cons]; omega, ⟨lotStep_ok h1 h4 h5 h0, h5⟩, a1⟩
      exact ⟨w2, b1, b2, a2.trans b3⟩
    generalize hLL : L * 48271 % 2147483647 = L2 at hL2 hstep
    have hi : L2 / 8 % B.1 < B.1 := Nat.mod_lt _ h0
    have hx : L2 / 64 % 6 < 6 := Nat.mod_lt _ (by decide)
    have zm : (u64 2147483647 = u64 0) = False := eq_false (by decide)
    have er : u64 L * u64 48271 - u64 L * u64 48271 / u64 2147483647 * u64 2147483647 = u64 L2 := by
      rw [u64_mul, u64_rem (by omega) (by omega), hLL]
    have e8 : u64 L2 / u64 8 = u64 (L2 / 8) := u64_div (by omega) (by omega)
    have e64 : u64 L2 / u64 64 = u64 (L2 / 64) := u64_div (by omega) (by omega)
    have ei : (u64 (L2 / 8) - u64 (L2 / 8) / (u32 B.1).toInt64 * (u32 B.1).toInt64).toInt32 = u32 (L2 / 8 % B.1) := by
      rw [u32_64 (by omega), u64_rem (by omega) (by omega), u64_32 (by omega)]
    have ex : (u64 (L2 / 64) - u64 (L2 / 64) / u64 6 * u64 6).toInt32 = u32 (L2 / 64 % 6) := by
      rw [u64_rem (by omega) (by omega), u64_32 (by omega)]
    have z8 : (u64 8 = u64 0) = False := eq_false (by decide)
    have z64 : (u64 64 = u64 0) = False := eq_false (by decide)
    have z6 : (u64 6 = u64 0) = False := eq_false (by decide)
    have zn : ((u32 B.1).toInt64 = u64 0) = False := by
      rw [u32_64 (by omega), u64_eq (by omega) (by omega)]
      exact eq_false (by omega)
    have hc := mo_mayNext h8.2.1.1 hok (show 0 ≤ 5152 by omega) (show L2 / 8 % B.1 < hN (playV B ds).1 by omega) hx
    rw [ff_mo_lots_58_f]
    unfold ff_mo_lots_58_b
    simp only [u32_lit, u64_lit, n2, zm, z8, z64, z6, zn, if_false, er, e8, e64, ei, ex, hc, sm_cI_some, u32_bool_eq0, u32_add]
    simp (disch := omega) only [u32_le, if_neg]
    unfold lotStep at hstep
    by_cases hcv : canV (playV B ds).1 (L2 / 8 % B.1) (L2 / 64 % 6) = true
    · rw [if_pos hcv] at hstep
      obtain ⟨w1, w2, b1, b2, b3, b4⟩ := mo_doSay (x := L2 / 64 % 6) h1 (by omega) h5 h8 (show L2 / 8 % B.1 < hN (playV B ds).1 by omega) hcv
      rw [if_neg (by rw [hcv]; decide)]
      simp only [b1, b2, sm_cV_some]
      exact hstep w2 b3 b4
    · rw [if_neg hcv] at hstep
      rw [if_pos (by simpa using hcv)]
      simp (disch := omega) only [sm_rd_u, sm_bind_some, m2, u32_le]
      by_cases h4' : 4 ≤ (hO (playV B ds).1).length
      · rw [if_pos h4'] at hstep
        obtain ⟨w2, b2, b3, b4⟩ := mo_doEnd h1 (by omega) h5 h8
        rw [if_neg (by omega), b2]
        simp only [sm_cI_some]
        exact hstep w2 b3 b4
      · rw [if_neg h4'] at hstep
        obtain ⟨w2, b2, b3, b4⟩ := mo_doHour h1 (by omega) h5 h3 h8
        rw [if_pos (by omega), b2]
        simp only [sm_cI_some]
        exact hstep w2 b3 b4
theorem RHs_new {w w1 w2 : sm_Mem} {B : HBase} {ds fs : List Deed} (h : RHs w B ds) (a1 : CS w1 B fs) (a3 : CFr w w1) (b1 : MS w2 B fs) (b2 : QFr (fun j => 1272 ≤ j) w1 w2) : RHs w2 B fs := by
  obtain ⟨h1, h2, h3, h4, h5, h6, h7, h8, h9⟩ := h
  obtain ⟨c1, c2, c3, c4, c5, c6⟩ := a1
  have e : ∀ a, (a < 36 ∨ (48 < a ∧ a ≠ 63) ∨ a = 37 ∨ a = 38 ∨ a = 39 ∨ a = 40) → w2.1 a = w.1 a := fun a ha => (b2.1 a (by omega)).trans (a3.1 a (by omega))
  refine ⟨h1, fun i hi => ?_, b1.2.1, c3, c4, ⟨CH_fr (fun a c1 c2 => b2.1 a (by omega)) c5.1, ?_⟩, ⟨?_, CDl_fr _ (fun j _ => ?_) c6.2⟩, b1.2.2.2.2, fun k hk => ?_⟩
  · rw [e 39 (by omega), e 40 (by omega)]; exact h2 i hi
  · rw [b2.1 36 (by decide)]; exact c5.2
  · rw [b2.1 45 (by decide)]; exact c6.1
  · rw [b2.1 (45 + 1) (by decide), b2.1 (45 + 2) (by decide), b2.1 (45 + 3) (by decide)]
    exact ⟨rfl, rfl, rfl⟩
  · have e63 : ∀ j, 1272 ≤ j → w2.1 63 j = w.1 63 j := fun j hj => (b2.2.1 j hj).trans (by rw [a3.1 63 (by omega)])
    rcases h9 k hk with ⟨c1, c2⟩ | ⟨l, c1, c2, c3, c4⟩
    · exact Or.inl ⟨by rw [e _ (by omega)]; exact c1, by rw [e63 _ (by omega)]; exact c2⟩
    · refine Or.inr ⟨l, c1, c2, ⟨by rw [e _ (by omega)]; exact c3.1, CDl_fr l (fun j hj => ?_) c3.2⟩, MKept_fr h1 c1 c2 (by rw [e 62 (by omega)]) (e 64 (by omega)) (e 65 (by omega)) (fun j hj => e63 _ (by omega)) c4⟩
      rw [e (24 + 4 * k + 1) (by omega), e (24 + 4 * k + 2) (by omega), e (24 + 4 * k + 3) (by omega)]
      exact ⟨rfl, rfl, rfl⟩
theorem op_lots {n s : Int32} {w : sm_Mem} (h : R w) : Both (ff_ho_lots n s) (ff_mo_lots n s) R w := by
  obtain ⟨hc, B, ds, hh⟩ := id h
  obtain ⟨hok, hn, n1, n2, n6⟩ := hh.n
  obtain ⟨h1, h2, h3, h4, h5, h6, h7, h8, h9⟩ := id hh
  have i1 : (1 : Int64).toInt = 1 := rfl
  have i20 : (20 : Int64).toInt = 20 := rfl
  have iM : (2147483646 : Int64).toInt = 2147483646 := rfl
  have iM1 : (2147483647 : Int64).toInt = 2147483647 := rfl
  have hneq : ∀ w, ff_mo_in n.toInt64 1 20 w = some (.int (if 1 ≤ n.toInt ∧ n.toInt ≤ 20 then u32 1 else u32 0), w) := fun w => by rw [mo_in_eq, i1, i20]
  have hseq : ∀ w, ff_mo_in s.toInt64 1 2147483646 w = some (.int (if 1 ≤ s.toInt ∧ s.toInt ≤ 2147483646 then u32 1 else u32 0), w) := fun w => by rw [mo_in_eq, i1, iM]
  have t1 : (u32 1).toInt = 1 := rfl
  have t20 : (u32 20).toInt = 20 := rfl
  have cpre : ff_ho_lots n s w = if 1 ≤ n.toInt ∧ n.toInt ≤ 20 then (if 1 ≤ s.toInt ∧ s.toInt ≤ 2147483646 then (if (w.1 36 0) = u32 0 then (some (.int (-u32 4), w)) else (if ((w.1 45 3) + n) ≤ u32 40 then ff_ho_lots_66 n s.toInt64 (u32 0) w else (some (.int (-u32 2), w)))) else some (.int (-u32 1), w)) else some (.int (-u32 1), w) := by
    unfold ff_ho_lots
    simp only [u32_lit, lg_lt, Int32.toInt_toInt64, iM1]
    simp only [Int32.lt_iff_toInt_lt, t1, t20]
    by_cases a1 : n.toInt < 1
    · rw [if_pos a1, if_neg (by omega)]
    rw [if_neg a1]
    by_cases a2 : 20 < n.toInt
    · rw [if_pos a2, if_neg (by omega)]
    have hnn : 1 ≤ n.toInt ∧ n.toInt ≤ 20 := by omega
    rw [if_neg a2, if_pos hnn]
    by_cases a3 : s.toInt < 1
    · rw [if_pos a3, if_neg (by omega)]
    rw [if_neg a3]
    by_cases a4 : s.toInt < 2147483647
    · have hss : 1 ≤ s.toInt ∧ s.toInt ≤ 2147483646 := by omega
      rw [if_pos a4, if_pos hss]
    · have hss : ¬ (1 ≤ s.toInt ∧ s.toInt ≤ 2147483646) := by omega
      rw [if_neg a4, if_neg hss]
  have mpre : ∀ w, ff_mo_lots n s w = if 1 ≤ n.toInt ∧ n.toInt ≤ 20 then (if 1 ≤ s.toInt ∧ s.toInt ≤ 2147483646 then (if (w.1 62 1) = u32 0 then (some (.int (-u32 4), w)) else (if ((w.1 63 0) + n) ≤ u32 40 then ff_mo_lots_58 n s.toInt64 (u32 0) w else (some (.int (-u32 2), w)))) else some (.int (-u32 1), w)) else some (.int (-u32 1), w) := by
    intro w
    unfold ff_mo_lots
    rw [hneq]
    simp only [sm_cI_some, u32_lit]
    by_cases a1 : 1 ≤ n.toInt ∧ n.toInt ≤ 20
    · rw [if_pos a1, if_pos a1]
      simp only [u10, if_false]
      rw [hseq]
      simp only [sm_cI_some]
      by_cases a2 : 1 ≤ s.toInt ∧ s.toInt ≤ 2147483646
      · rw [if_pos a2, if_pos a2]
        simp (disch := omega) only [u10, if_false, sm_rd_u, sm_bind_some]
      · rw [if_neg a2, if_neg a2]
        simp only [if_true]
    · rw [if_neg a1, if_neg a1]
      simp only [if_true]
  by_cases a1 : 1 ≤ n.toInt ∧ n.toInt ≤ 20
  · by_cases a2 : 1 ≤ s.toInt ∧ s.toInt ≤ 2147483646
    · rw [if_pos a1, if_pos a2] at cpre
      simp only [if_pos a1, if_pos a2] at mpre
      by_cases h0 : B.1 = 0
      · refine BothR_same h (-u32 4) ?_ ?_
        · rw [cpre, n1, h0, if_pos rfl]
        · rw [mpre, n2, h0, if_pos rfl]
      have z0 : ¬ u32 B.1 = u32 0 := by rw [u32_eq (by omega) (by omega)]; exact h0
      obtain ⟨n', hn1, hn20, rfl⟩ : ∃ n' : Nat, 1 ≤ n' ∧ n' ≤ 20 ∧ n = u32 n' := by
        rcases u32_cases n with q | ⟨n', q1, rfl⟩
        · rw [Int32.lt_iff_toInt_lt] at q
          have : (u32 0).toInt = 0 := rfl
          omega
        · rw [u32_toInt q1] at a1
          exact ⟨n', by omega, by omega, rfl⟩
      obtain ⟨s', hs1, rfl⟩ : ∃ s' : Nat, s' < 2147483648 ∧ s = u32 s' := by
        rcases u32_cases s with q | ⟨s', q1, rfl⟩
        · rw [Int32.lt_iff_toInt_lt] at q
          have : (u32 0).toInt = 0 := rfl
          omega
        · exact ⟨s', q1, rfl⟩
      rw [n1, if_neg z0, h7.1, u32_add, u32_64 hs1] at cpre
      by_cases hl : ds.length + n' ≤ 40
      · have hle : u32 (ds.length + n') ≤ u32 40 := by rw [u32_le (by omega) (by omega)]; exact hl
        rw [if_pos hle] at cpre
        obtain ⟨w1, b1, b2, b3⟩ := ho_lots_loop (n := n') (show 0 < B.1 by omega) hn20 n' 0 1000000 s' ds w (by omega) (by omega) hs1 hl ⟨h1, h2, h4, h5, h6, h7⟩
        have m0 : MKept w1 B 0 ds := MKept_c h1 h4 h5 (fun a ha => b3.1 a (by omega)) h8
        obtain ⟨w2, c1, c2, c3⟩ := mo_lots_loop (n := n') (show 0 < B.1 by omega) hn20 n' 0 1000000 s' ds w1 (by omega) (by omega) hs1 hl ⟨h1, fun i hi => by rw [b3.1 66 (by omega)]; exact h3 i hi, h4, h5, m0⟩
        unfold ff_ho_lots_66 at cpre
        rw [sm_N_eq, b1] at cpre
        refine Both_mk _ w1 w2 cpre ?_ ⟨RC_fr (fun a ha => by rw [c3.1 a (by omega), b3.1 a (by omega)]) (c3.2.2.trans b3.2) hc, B, _, RHs_new hh b2 b3 c2 c3⟩
        have n2' : w1.1 62 1 = u32 B.1 := by rw [b3.1 62 (by omega)]; exact n2
        rw [mpre, n2', if_neg z0, m0.1, u32_add, if_pos hle, u32_64 hs1]
        unfold ff_mo_lots_58
        rw [sm_N_eq]
        exact c1
      · have hle : ¬ u32 (ds.length + n') ≤ u32 40 := by rw [u32_le (by omega) (by omega)]; exact hl
        refine BothR_same h (-u32 2) ?_ ?_
        · rw [cpre, if_neg hle]
        · rw [mpre, n2, if_neg z0, h8.1, u32_add, if_neg hle]
    · refine BothR_same h (-u32 1) ?_ ?_
      · rw [cpre, if_pos a1, if_neg a2]
      · rw [mpre, if_pos a1, if_neg a2]
  · refine BothR_same h (-u32 1) ?_ ?_
    · rw [cpre, if_neg a1]
    · rw [mpre, if_neg a1]
