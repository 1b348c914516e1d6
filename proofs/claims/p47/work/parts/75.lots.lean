/-! pure: lots -/
def u64 (n : Nat) : Int64 := Int64.ofNat n
theorem u64_toInt {a : Nat} (h : a < 9223372036854775808) : (u64 a).toInt = (a : Int) := Int64.toInt_ofNat_of_lt h
theorem u64_lit (n : Nat) : @OfNat.ofNat Int64 (no_index n) Int64.instOfNat = u64 n := (Eq.refl (u64 n)).trans (Eq.refl (u64 n))
theorem u64_mul {a b : Nat} : u64 a * u64 b = u64 (a * b) := (Int64.ofNat_mul a b).symm
theorem u64_add {a b : Nat} : u64 a + u64 b = u64 (a + b) := (Int64.ofNat_add a b).symm
theorem u64_sub {a b : Nat} (h : b ≤ a) : u64 a - u64 b = u64 (a - b) := by
  have e : u64 a = u64 (a - b) + u64 b := by rw [u64_add, Nat.sub_add_cancel h]
  rw [e, Int64.add_sub_cancel]
theorem u64_div {a b : Nat} (ha : a < 9223372036854775808) (hb : b < 9223372036854775808) : u64 a / u64 b = u64 (a / b) := by
  have h3 : a / b < 9223372036854775808 := Nat.lt_of_le_of_lt (Nat.div_le_self a b) ha
  apply Int64.toInt_inj.mp
  rw [Int64.toInt_div, u64_toInt ha, u64_toInt hb, u64_toInt h3]
  rw [← Int.ofNat_tdiv]
  generalize a / b = q at h3 ⊢
  exact Int.bmod_eq_of_le (by omega) (by omega)
theorem u64_rem {a b : Nat} (ha : a < 9223372036854775808) (hb : b < 9223372036854775808) : u64 a - u64 a / u64 b * u64 b = u64 (a % b) := by
  have h1 : a / b * b ≤ a := Nat.div_mul_le_self a b
  rw [u64_div ha hb, u64_mul, u64_sub h1]
  have h2 := Nat.div_add_mod a b
  rw [Nat.mul_comm] at h2
  rw [show a - a / b * b = a % b by omega]
theorem u64_eq {a b : Nat} (ha : a < 9223372036854775808) (hb : b < 9223372036854775808) : (u64 a = u64 b) = (a = b) := by
  refine propext ⟨fun h => ?_, fun h => by rw [h]⟩
  have := congrArg Int64.toInt h
  rw [u64_toInt ha, u64_toInt hb] at this
  exact Int.ofNat_inj.mp this
theorem u64_32 {a : Nat} (ha : a < 2147483648) : (u64 a).toInt32 = u32 a := by
  apply Int32.toInt_inj.mp
  rw [Int64.toInt_toInt32, u64_toInt (by omega), u32_toInt ha]
  exact Int.bmod_eq_of_le (by omega) (by omega)
theorem u32_64 {a : Nat} (ha : a < 2147483648) : (u32 a).toInt64 = u64 a := u32_long ha
def CS (w : sm_Mem) (B : HBase) (ds : List Deed) : Prop := BOk B ∧ CB w B ∧ ds.length ≤ 40 ∧ validV B ds ∧ CHX w (playV B ds) ∧ CD w 45 ds
def CFr (w w1 : sm_Mem) : Prop := (∀ a, (a < 36 ∨ 48 < a ∨ a = 37 ∨ a = 38 ∨ a = 39 ∨ a = 40) → w1.1 a = w.1 a) ∧ w1.2 = w.2
theorem CFr.refl {w : sm_Mem} : CFr w w := ⟨fun _ _ => rfl, rfl⟩
theorem CFr.trans {w w1 w2 : sm_Mem} (h1 : CFr w w1) (h2 : CFr w1 w2) : CFr w w2 := ⟨fun a ha => (h2.1 a ha).trans (h1.1 a ha), h2.2.trans h1.2⟩
theorem CS_enact {B : HBase} {ds : List Deed} {d : Deed} {w : sm_Mem} (h : CS w B ds) (hl : ds.length < 40) (hd : okD (playV B ds) d) : ∃ w1, ff_hs_enact (u32 d.1) (u32 d.2.1) (u32 d.2.2) w = some (.null, w1) ∧ CS w1 B (d :: ds) ∧ CFr w w1 := by
  obtain ⟨h1, h2, h4, h5, h6, h7⟩ := h
  obtain ⟨hok, hn⟩ := playV_ok h1 ds h4 h5
  have hsm := playV_small (B := B) ds
  obtain ⟨w1, a1, a2, a3, a4⟩ := de_add (d := d) hl h7
  obtain ⟨w2, b1, b2, b3⟩ := hs_perform (w := w1) ⟨CH_fr (fun a c1 c2 => a3 a (by omega)) h6.1, by rw [a3 36 (by omega)]; exact h6.2⟩ hok hn (fun i hi => by rw [a3 39 (by omega), a3 40 (by omega)]; exact h2 i hi) hd (by omega) (by omega)
  refine ⟨w2, ?_, ⟨h1, fun i hi => ?_, by rw [List.length_cons]; omega, ⟨hd, h5⟩, b2, ⟨by rw [b3.1 45 (by omega)]; exact a2.1, CDl_fr _ (fun j _ => ?_) a2.2⟩⟩, fun a ha => by rw [b3.1 a (by omega), a3 a (by omega)], b3.2.1.trans a4⟩
  · unfold ff_hs_enact
    rw [a1, sm_cV_some, b1]
    rfl
  · rw [b3.1 39 (by omega), b3.1 40 (by omega), a3 39 (by omega), a3 40 (by omega)]
    exact h2 i hi
  · rw [b3.1 (45 + 1) (by omega), b3.1 (45 + 2) (by omega), b3.1 (45 + 3) (by omega)]
    exact ⟨rfl, rfl, rfl⟩
def lotStep (B : HBase) (ds : List Deed) (L : Nat) : Deed := if canV (playV B ds).1 (L / 8 % B.1) (L / 64 % 6) = true then (0, L / 8 % B.1, L / 64 % 6) else if 4 ≤ (hO (playV B ds).1).length then (1, 0, 0) else (2, 0, 0)
def lotsV (B : HBase) : Nat → Nat → List Deed → List Deed
  | 0, _, ds => ds
  | m + 1, L, ds => lotsV B m (L * 48271 % 2147483647) (lotStep B ds (L * 48271 % 2147483647) :: ds)
theorem lotStep_ok {B : HBase} {ds : List Deed} {L : Nat} (hB : BOk B) (hl : ds.length ≤ 40) (hv : validV B ds) (h0 : 0 < B.1) : okD (playV B ds) (lotStep B ds L) := by
  obtain ⟨hok, hn⟩ := playV_ok hB ds hl hv
  unfold lotStep
  split
  · rename_i hc
    exact Or.inl ⟨rfl, by rw [hn]; exact Nat.mod_lt _ h0, Nat.mod_lt _ (by decide), hc⟩
  · split
    · exact Or.inr (Or.inl ⟨rfl, rfl, rfl⟩)
    · exact Or.inr (Or.inr (Or.inl ⟨rfl, rfl, rfl⟩))
theorem lotsV_len {B : HBase} : ∀ (m L : Nat) (ds : List Deed), (lotsV B m L ds).length = ds.length + m
  | 0, _, _ => rfl
  | m + 1, L, ds => by
    rw [lotsV, lotsV_len m, List.length_cons]
    omega
theorem hs_enactLot {B : HBase} {ds : List Deed} {L : Nat} {w : sm_Mem} (h : CS w B ds) (hl : ds.length < 40) (h0 : 0 < B.1) (hL : L < 2147483648) : ∃ w1, ff_hs_enactLot (u64 L) w = some (.null, w1) ∧ CS w1 B (lotStep B ds L :: ds) ∧ CFr w w1 := by
  obtain ⟨h1, h2, h4, h5, h6, h7⟩ := id h
  obtain ⟨hok, hn⟩ := playV_ok h1 ds h4 h5
  have h6' := h1.1
  have n1 : w.1 36 0 = u32 B.1 := by rw [← hn]; exact h6.1.1
  obtain ⟨w1, a1, a2, a3⟩ := CS_enact h hl (lotStep_ok (L := L) h1 h4 h5 h0)
  refine ⟨w1, ?_, a2, a3⟩
  have hi : L / 8 % B.1 < B.1 := Nat.mod_lt _ h0
  have hx : L / 64 % 6 < 6 := Nat.mod_lt _ (by decide)
  have e8 : u64 L / u64 8 = u64 (L / 8) := u64_div (by omega) (by omega)
  have e64 : u64 L / u64 64 = u64 (L / 64) := u64_div (by omega) (by omega)
  have ei : (u64 (L / 8) - u64 (L / 8) / (u32 B.1).toInt64 * (u32 B.1).toInt64).toInt32 = u32 (L / 8 % B.1) := by
    rw [u32_64 (by omega), u64_rem (by omega) (by omega), u64_32 (by omega)]
  have ex : (u64 (L / 64) - u64 (L / 64) / u64 6 * u64 6).toInt32 = u32 (L / 64 % 6) := by
    rw [u64_rem (by omega) (by omega), u64_32 (by omega)]
  have z8 : (u64 8 = u64 0) = False := eq_false (by decide)
  have z64 : (u64 64 = u64 0) = False := eq_false (by decide)
  have z6 : (u64 6 = u64 0) = False := eq_false (by decide)
  have zn : ((u32 B.1).toInt64 = u64 0) = False := by
    rw [u32_64 (by omega), u64_eq (by omega) (by omega)]
    exact eq_false (by omega)
  have hc := ho_can h6.1 hok (show L / 8 % B.1 < hN (playV B ds).1 by omega) hx
  unfold ff_hs_enactLot
  simp (disch := omega) only [u32_lit, u64_lit, n1, u32_lt, h0, if_true, z8, z64, z6, zn, if_false, e8, e64, ei, ex, hc, sm_cI_some, u32_bool_eq0, h6.1.2.2.2.1]
  unfold lotStep at a1
  by_cases hcv : canV (playV B ds).1 (L / 8 % B.1) (L / 64 % 6) = true
  · rw [if_pos hcv] at a1
    rw [if_neg (by rw [hcv]; decide), a1]
    rfl
  · rw [if_neg hcv] at a1
    rw [if_pos (by simpa using hcv)]
    have l8 := hok.2.2.2.1
    simp (disch := omega) only [u32_lt]
    by_cases h4' : 4 ≤ (hO (playV B ds).1).length
    · rw [if_pos h4'] at a1
      rw [if_neg (by omega), a1]
      rfl
    · rw [if_neg h4'] at a1
      rw [if_pos (by omega), a1]
      rfl
theorem ho_lots_loop {B : HBase} {n : Nat} (h0 : 0 < B.1) (hn : n ≤ 20) : ∀ (m k F L : Nat) (ds : List Deed) (w : sm_Mem), k + m = n → m < F → L < 2147483648 → ds.length + m ≤ 40 → CS w B ds → ∃ w1, ff_ho_lots_66_f F (u32 n) (u64 L) (u32 k) w = some (.int (u32 (hO (playV B (lotsV B m L ds)).1).length), w1) ∧ CS w1 B (lotsV B m L ds) ∧ CFr w w1 := by
  intro m
  induction m with
  | zero =>
    intro k F L ds w hk hF hL hl h
    obtain ⟨F, rfl⟩ : ∃ G, F = G + 1 := ⟨F - 1, by omega⟩
    refine ⟨w, ?_, h, CFr.refl⟩
    rw [ff_ho_lots_66_f]
    unfold ff_ho_lots_66_b
    simp (disch := omega) only [u32_lit, sm_let_eq, sm_bind_some, sm_cI_some, sm_cV_some, sm_cL_some, sm_rd_u, sm_wr_u, u32_add, u32_mul, u32_sub, u32_le, u32_lt, u32_eq, u32_eq_neg, u32_neg_eq, u32_neg_neg, u32_le_neg, u32_neg_lt, u32_lt_neg, u32_neg_le, u10, u01, u3n0, u1n0, u4n0, n9_lt, n1_lt, n9_neg, n1_neg, if_true, if_false, if_pos, if_neg, ne_eq, not_true_eq_false, not_false_eq_true, h.2.2.2.2.1.1.2.2.2.1, lotsV]
  | succ m ih =>
    intro k F L ds w hk hF hL hl h
    obtain ⟨F, rfl⟩ : ∃ G, F = G + 1 := ⟨F - 1, by omega⟩
    have hL2 : L * 48271 % 2147483647 < 2147483648 := by
      have := Nat.mod_lt (L * 48271) (show 2147483647 > 0 by decide)
      omega
    obtain ⟨w1, a1, a2, a3⟩ := hs_enactLot h (by omega) h0 hL2
    obtain ⟨w2, b1, b2, b3⟩ := ih (k + 1) F (L * 48271 % 2147483647) _ w1 (by omega) (by omega) hL2 (by rw [List.length_cons]; omega) a2
    refine ⟨w2, ?_, b2, a3.trans b3⟩
    have zm : (u64 2147483647 = u64 0) = False := eq_false (by decide)
    have er : u64 L * u64 48271 - u64 L * u64 48271 / u64 2147483647 * u64 2147483647 = u64 (L * 48271 % 2147483647) := by
      rw [u64_mul, u64_rem (by omega) (by omega)]
    rw [ff_ho_lots_66_f]
    unfold ff_ho_lots_66_b
    simp (disch := omega) only [u32_lit, u64_lit, u32_le, if_neg, zm, if_false, er, a1, sm_cV_some, u32_add]
    exact b1
