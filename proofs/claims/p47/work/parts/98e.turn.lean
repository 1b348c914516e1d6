/-! pure: a turn of the law, from its end: chances, means, lots -/
def OkR (o : sm_R) : Prop := ∃ w1, o = some (.int (u32 1), w1)
def TC (S : Int32 → Int32 → Int64 → Int32 → sm_Mem → sm_R) (wb : sm_Mem) (B : HBase) (ds : List Deed) (T : Nat) (a7 : Int64) : Prop := ds.length ≤ 9 ∧ T < 3 ∧ ∀ w, SI wb w B ds → OkR (S (u32 B.1) (u32 (2 ^ B.1 - 1)) a7 (u32 (T + 1)) w)
def bre (B : HBase) (ds : List Deed) : Int32 := sumB (hB (playV B ds).1) 0 (hN (playV B ds).1) (u32 0)
theorem SI.a {wb w w1 : sm_Mem} {B : HBase} {ds : List Deed} (h : SI wb w B ds) (h1 : RHs w1 B ds) (ha : AFr w w1) : SI wb w1 B ds := ⟨h1, h.2.1.a ha, h.2.2⟩
theorem up_eq {w : sm_Mem} : ff_ho_upper w = some (.long (w.2 60 1), w) := rfl
theorem lo_eq {w : sm_Mem} : ff_ho_lower w = some (.long (w.2 60 2), w) := rfl
theorem as_eq {w : sm_Mem} : ff_ho_asked w = some (.int (w.1 60 0), w) := rfl
theorem c64_lt {a b : Nat} (ha : a < 9223372036854775808) (hb : b < 9223372036854775808) : (lg_cmp (u64 a) (u64 b) < u32 0) = (a < b) := by
  rw [lg_lt, u64_toInt ha, u64_toInt hb]
  exact propext Int.ofNat_lt
theorem c64_gt {a b : Nat} (ha : a < 9223372036854775808) (hb : b < 9223372036854775808) : (u32 0 < lg_cmp (u64 a) (u64 b)) = (b < a) := by
  rw [lg_gt, u64_toInt ha, u64_toInt hb]
  exact propext Int.ofNat_lt
theorem c64_le {a b : Nat} (ha : a < 9223372036854775808) (hb : b < 9223372036854775808) : (lg_cmp (u64 a) (u64 b) ≤ u32 0) = (a ≤ b) := by
  refine propext ⟨fun h => ?_, fun h => ?_⟩
  · rcases Nat.lt_or_ge b a with q | q
    · have := (c64_gt ha hb).mpr q
      rw [Int32.lt_iff_toInt_lt] at this
      rw [Int32.le_iff_toInt_le] at h
      omega
    · exact q
  · rw [Int32.le_iff_toInt_le]
    have : ¬ (u32 0 < lg_cmp (u64 a) (u64 b)) := by rw [c64_gt ha hb]; omega
    rw [Int32.lt_iff_toInt_lt] at this
    omega
theorem c64_eq {a b : Nat} (ha : a < 9223372036854775808) (hb : b < 9223372036854775808) : (lg_cmp (u64 a) (u64 b) = u32 0) = (a = b) := by
  rw [lg_eq0, u64_eq ha hb]
theorem cnt_1 {w : sm_Mem} {B : HBase} {ds : List Deed} (hc : SC w) (h : RHs w B ds) : ff_ho_count (u32 1) w = some (.int (u32 (hH (playV B ds).1)), w) := ch_count hc h (by decide)
theorem cnt_2 {w : sm_Mem} {B : HBase} {ds : List Deed} (hc : SC w) (h : RHs w B ds) : ff_ho_count (u32 2) w = some (.int (u32 ds.length), w) := ch_count hc h (by decide)
theorem cnt_3 {w : sm_Mem} {B : HBase} {ds : List Deed} (hc : SC w) (h : RHs w B ds) : ff_ho_count (u32 3) w = some (.int (u32 (hO (playV B ds).1).length), w) := ch_count hc h (by decide)
theorem cnt_4 {w : sm_Mem} {B : HBase} {ds : List Deed} (hc : SC w) (h : RHs w B ds) : ff_ho_count (u32 4) w = some (.int (u32 (playV B ds).2), w) := ch_count hc h (by decide)
theorem cnt_5 {w : sm_Mem} {B : HBase} {ds : List Deed} (hc : SC w) (h : RHs w B ds) : ff_ho_count (u32 5) w = some (.int (bre B ds), w) := ch_count hc h (by decide)
theorem cnt_6 {w : sm_Mem} {B : HBase} {ds : List Deed} (hc : SC w) (h : RHs w B ds) : ff_ho_count (u32 6) w = some (.int (u32 (nxt (playV B ds).1)), w) := by
  rw [← (nxt_spec (playV B ds).1).1]
  exact ch_count hc h (by decide)
theorem and24 (x : Int32) : ∃ m, m < 16777216 ∧ x &&& u32 16777215 = u32 m := by
  rcases u32_cases (x &&& u32 16777215) with h | ⟨m, hm, h⟩
  · rw [Int32.lt_iff_toInt_lt] at h
    have e0 : (u32 0).toInt = 0 := rfl
    rw [e0] at h
    have h2 : ((x &&& u32 16777215).toBitVec).msb = false := by
      show (x.toBitVec &&& (u32 16777215).toBitVec).msb = false
      rw [BitVec.msb_and]
      have : ((u32 16777215).toBitVec).msb = false := by decide
      rw [this, Bool.and_false]
    rw [BitVec.msb_eq_toInt, decide_eq_false_iff_not] at h2
    exact absurd h h2
  · refine ⟨m, ?_, h⟩
    have e1 := congrArg (fun z : Int32 => z.toBitVec.toNat) h
    have e2 : (x &&& u32 16777215).toBitVec.toNat = x.toBitVec.toNat &&& 16777215 := by
      show (x.toBitVec &&& (u32 16777215).toBitVec).toNat = _
      rw [BitVec.toNat_and]
      rfl
    have e3 : (u32 m).toBitVec.toNat = m := by
      show (BitVec.ofNat 32 m).toNat = m
      rw [BitVec.toNat_ofNat]
      exact Nat.mod_eq_of_lt (by omega)
    have e1 : (x &&& u32 16777215).toBitVec.toNat = (u32 m).toBitVec.toNat := e1
    rw [e2, e3] at e1
    have := Nat.and_le_right (n := x.toBitVec.toNat) (m := 16777215)
    omega
theorem far_le4 {B : HBase} {ds : List Deed} {ws : List Nat} (hl : ws.length ≤ 4) : farL 0 (glOf ws) (playV B ds).1 0 ws.length ≤ 4 := by
  have := (far_spec (sil := 0) (gs := glOf ws) (H := (playV B ds).1)).2.2
  rw [glOf_len] at this
  omega
theorem gcd_div {a m : Nat} (h : 0 < m) : a / Nat.gcd a m ≤ a ∧ m / Nat.gcd a m ≤ m := ⟨Nat.div_le_self _ _, Nat.div_le_self _ _⟩
theorem L2459 {E : Nat × (Nat → Int32)} {S : Int32 → Int32 → Int64 → Int32 → sm_Mem → sm_R} {wb : sm_Mem} {B : HBase} {ds : List Deed} {T : Nat} {a7 : Int64} {x : Int32} {w : sm_Mem} {ws : List Nat} (hS : TC S wb B ds T a7) (h : SI wb w B ds) (hr : RowW w 0 ws) (hl : ws.length ≤ 4) {p : Nat} (hp : p ≤ 12) : OkR (ff_la_law_2459 E S (u32 B.1) (u32 (2 ^ B.1 - 1)) a7 (u32 T) x (u32 ds.length) (u32 (hH (playV B ds).1)) (u32 (hO (playV B ds).1).length) (bre B ds) (u32 (nxt (playV B ds).1)) (u32 (farL 0 (glOf ws) (playV B ds).1 0 ws.length)) (u32 p) w) := by
  obtain ⟨hd9, hT, hS⟩ := hS
  obtain ⟨h1, h2, h0⟩ := id h
  obtain ⟨hok, hn, n1, n6⟩ := h1.n
  obtain ⟨q1, q2, q3, q4⟩ := pow_n n6
  have hf4 := far_le4 (B := B) (ds := ds) hl
  have hA := mid_le (n := B.1) (p := p) (gs := glOf ws) (H := (playV B ds).1) n6 hp
  rw [glOf_len] at hA
  have hA2 : farL 0 (glOf ws) (playV B ds).1 0 ws.length * 12 ^ B.1 ≤ 4 * 2985984 := Nat.mul_le_mul hf4 q4
  obtain ⟨w1, a1, a2, a3, a4, a5⟩ := ch_mid h1 h0 (show 0 < 6 by decide) hp hr (by omega) (by omega)
  generalize hAA : sumN (gainV 0 B.1 p (glOf ws) (playV B ds).1) (2 ^ B.1) = A at hA a4 a5
  have hg : Nat.gcd A (12 ^ B.1) ∣ 12 ^ B.1 := Nat.gcd_dvd_right _ _
  have hle : A / Nat.gcd A (12 ^ B.1) ≤ farL 0 (glOf ws) (playV B ds).1 0 ws.length * (12 ^ B.1 / Nat.gcd A (12 ^ B.1)) := by
    rw [← Nat.mul_div_assoc _ hg]
    exact Nat.div_le_div_right hA
  have hb1 := (gcd_div (a := A) q3).1
  have hb2 := (gcd_div (a := A) q3).2
  have hb3 : farL 0 (glOf ws) (playV B ds).1 0 ws.length * (12 ^ B.1 / Nat.gcd A (12 ^ B.1)) ≤ 4 * 2985984 := Nat.le_trans (Nat.mul_le_mul hf4 hb2) (Nat.mul_le_mul_left 4 q4)
  generalize A / Nat.gcd A (12 ^ B.1) = ua at hle hb1 a4
  generalize 12 ^ B.1 / Nat.gcd A (12 ^ B.1) = la at hle hb2 hb3 a5
  have s1 := h.a a2 a3
  obtain ⟨m, hm, em⟩ := and24 x
  have hlen : ds.length + 3 ≤ 40 := by omega
  obtain ⟨w2, b1, b2, b3, b4⟩ := ch_lots (s := 1 + m) s1.1 h0 (by omega) (by omega) hlen
  have hc2 := (s1.2.1.a b3).2.1
  have hll := lotsV_len (B := B) 3 (1 + m) ds
  have hok2 := b2.n.1
  have h82 := hok2.2.2.2.1
  obtain ⟨w3, c1, c2, c3⟩ := ch_undo (n := ds.length) b2 (by omega)
  have hdr : (lotsV B 3 (1 + m) ds).length - ds.length = 3 := by omega
  rw [hdr] at c1
  rw [hdr, lotsV_drop] at c2
  have s3 : SI wb w3 B ds := ⟨c2, (s1.2.1.a b3).a (AFr.d c3), h0⟩
  have hc3 := s3.2.1.2.1
  have e2 := cnt_2 hc2 b2
  rw [hll] at e2
  unfold ff_la_law_2459
  simp only [u32_lit, u64_lit]
  rw [a1, cI_, if_pos rfl, up_eq, cL_, a4, if_neg (by rw [c64_lt (by omega) (by omega)]; omega), up_eq, cL_, lo_eq, cL_, a4, a5, u32_64 (by omega), u64_mul, if_pos (by rw [c64_le (by omega) (by omega)]; exact hle)]
  rw [em, u32_add, b1, cI_, if_neg (by rw [u32_lt (by omega) (by omega)]; omega), if_neg (by rw [u32_lt (by omega) (by omega)]; omega)]
  rw [e2, cI_, u32_add, if_pos rfl, cnt_3 hc2 b2, cI_, if_pos rfl, c1, cI_, if_pos rfl, cnt_3 hc3 c2, cI_, if_pos rfl, cnt_5 hc3 c2, cI_, if_pos rfl, cnt_6 hc3 c2, cI_, if_pos rfl, cnt_1 hc3 c2, cI_, if_pos rfl, u32_add]
  exact hS w3 s3
theorem L2301 {E : Nat × (Nat → Int32)} {S : Int32 → Int32 → Int64 → Int32 → sm_Mem → sm_R} {wb : sm_Mem} {B : HBase} {ds : List Deed} {T : Nat} {a7 : Int64} {x : Int32} {w : sm_Mem} {ws : List Nat} (hS : TC S wb B ds T a7) (h : SI wb w B ds) (hr : RowW w 0 ws) (hl : ws.length ≤ 4) : OkR (ff_la_law_2301 E S (u32 B.1) (u32 (2 ^ B.1 - 1)) a7 (u32 T) x (u32 ds.length) (u32 (hH (playV B ds).1)) (u32 (hO (playV B ds).1).length) (bre B ds) (u32 (nxt (playV B ds).1)) (u32 ws.length) (u64 (wys 0 (glOf ws) (playV B ds).1).length) (u32 (farL 0 (glOf ws) (playV B ds).1 0 ws.length)) w) := by
  obtain ⟨h1, h2, h0⟩ := id h
  obtain ⟨hok, hn, n1, n6⟩ := h1.n
  obtain ⟨q1, q2, q3, q4⟩ := pow_n n6
  have h6 := hok.1
  have hsm := wys_small (sil := 0) (gs := glOf ws) (H := (playV B ds).1) h6 (by rw [glOf_len]; omega)
  have hf4 := far_le4 (B := B) (ds := ds) hl
  obtain ⟨p, hp, ep⟩ := la_low (x >>> (u32 13 &&& u32 31)) (show 0 < 13 by decide) (by decide)
  -- nobody silent
  have ho0 := odds_0 (n := B.1) (gs := glOf ws) (H := (playV B ds).1) n6
  rw [glOf_len] at ho0
  have hm0 := mid_0 (n := B.1) (gs := glOf ws) (H := (playV B ds).1) n6
  rw [glOf_len] at hm0
  have hff := far_full (sil := 0) (gs := glOf ws) (H := (playV B ds).1)
  rw [glOf_len] at hff
  have ho12 := odds_12 (gs := glOf ws) (H := (playV B ds).1) hn.symm n6
  rw [glOf_len] at ho12
  have hb0 : sumN (gainV 1 B.1 0 (glOf ws) (playV B ds).1) (2 ^ B.1) ≤ 12 ^ B.1 := odds_le n6 (by omega)
  have hbm : farL 0 (glOf ws) (playV B ds).1 0 ws.length * 12 ^ B.1 ≤ 4 * 2985984 := Nat.mul_le_mul hf4 q4
  have hb12 : sumN (gainV 1 B.1 12 (glOf ws) (playV B ds).1) (2 ^ B.1) ≤ 12 ^ B.1 := odds_le n6 (by omega)
  have hbp : sumN (gainV 1 B.1 p (glOf ws) (playV B ds).1) (2 ^ B.1) ≤ 12 ^ B.1 := odds_le n6 (by omega)
  obtain ⟨w1, a1, a2, a3, a4, a5⟩ := ch_odds (p := 0) h1 h0 (show 0 < 6 by decide) (by omega) hr (by omega) (by omega)
  have s1 := h.a a2 a3
  have r1 := hr.a (by decide) a3
  obtain ⟨w2, b1, b2, b3, b4, b5⟩ := ch_mid (p := 0) s1.1 h0 (show 0 < 6 by decide) (by omega) r1 (by omega) (by rw [hm0]; omega)
  have s2 := s1.a b2 b3
  have r2 := r1.a (by decide) b3
  obtain ⟨w3, c1, c2, c3, c4, c5⟩ := ch_odds (p := 12) s2.1 h0 (show 0 < 6 by decide) (by omega) r2 (by omega) (by omega)
  have s3 := s2.a c2 c3
  have r3 := r2.a (by decide) c3
  obtain ⟨w4, d1, d2, d3, d4, d5⟩ := ch_odds (p := p) s3.1 h0 (show 0 < 6 by decide) (by omega) r3 (by omega) (by omega)
  have s4 := s3.a d2 d3
  have r4 := r3.a (by decide) d3
  have u0 : w1.2 60 1 = u64 (if (wys 0 (glOf ws) (playV B ds).1).length = 0 then 0 else 1) ∧ w1.2 60 2 = u64 1 := by
    rw [a4, a5, ho0]
    by_cases e : farL 0 (glOf ws) (playV B ds).1 0 ws.length = ws.length
    · rw [if_pos e, Nat.gcd_self, Nat.div_self q3, if_neg (fun z => hff.mp z e)]
      exact ⟨rfl, rfl⟩
    · rw [if_neg e, Nat.gcd_zero_left, Nat.zero_div, Nat.div_self q3, if_pos (hff.mpr e)]
      exact ⟨rfl, rfl⟩
  have um : w2.2 60 1 = u64 (farL 0 (glOf ws) (playV B ds).1 0 ws.length) ∧ w2.2 60 2 = u64 1 := by
    rw [b4, b5, hm0]
    have : Nat.gcd (farL 0 (glOf ws) (playV B ds).1 0 ws.length * 12 ^ B.1) (12 ^ B.1) = 12 ^ B.1 := Nat.gcd_mul_left_left _ _
    rw [this, Nat.mul_div_cancel _ q3, Nat.div_self q3]
    exact ⟨rfl, rfl⟩
  have u12 : w3.2 60 1 = u64 (if ws.length = 0 then 1 else 0) := by
    rw [c4, ho12]
    by_cases e : ws.length = 0
    · rw [if_pos e, if_pos e, Nat.gcd_self, Nat.div_self q3]
    · rw [if_neg e, if_neg e, Nat.gcd_zero_left, Nat.zero_div]
  generalize hAA : sumN (gainV 1 B.1 p (glOf ws) (playV B ds).1) (2 ^ B.1) = A at hbp d4 d5
  have hle : A / Nat.gcd A (12 ^ B.1) ≤ 12 ^ B.1 / Nat.gcd A (12 ^ B.1) := Nat.div_le_div_right hbp
  have hg1 := (gcd_div (a := A) q3).1
  have hg2 := (gcd_div (a := A) q3).2
  generalize hua : A / Nat.gcd A (12 ^ B.1) = ua at hle hg1 d4
  generalize 12 ^ B.1 / Nat.gcd A (12 ^ B.1) = la at hle hg2 d5
  have last : OkR (ff_la_law_2459 E S (u32 B.1) (u32 (2 ^ B.1 - 1)) a7 (u32 T) x (u32 ds.length) (u32 (hH (playV B ds).1)) (u32 (hO (playV B ds).1).length) (bre B ds) (u32 (nxt (playV B ds).1)) (u32 (farL 0 (glOf ws) (playV B ds).1 0 ws.length)) (u32 p) w4) := L2459 hS s4 r4 hl (by omega)
  have l2407 : OkR (ff_la_law_2407 E S (u32 B.1) (u32 (2 ^ B.1 - 1)) a7 (u32 T) x (u32 ds.length) (u32 (hH (playV B ds).1)) (u32 (hO (playV B ds).1).length) (bre B ds) (u32 (nxt (playV B ds).1)) (u64 (wys 0 (glOf ws) (playV B ds).1).length) (u32 (farL 0 (glOf ws) (playV B ds).1 0 ws.length)) (u32 p) (u64 (if ws.length = 0 then 1 else 0)) (u64 (if ws.length = 0 then 1 else 0)) w3) := by
    unfold ff_la_law_2407
    simp only [u32_lit, u64_lit]
    rw [if_pos (by rw [lg_eq0]), d1, cI_, if_pos rfl, up_eq, cL_, d4, if_neg (by rw [c64_lt (by omega) (by omega)]; omega), up_eq, cL_, lo_eq, cL_, d4, d5, if_neg (by rw [c64_gt (by omega) (by omega)]; omega)]
    by_cases e : (wys 0 (glOf ws) (playV B ds).1).length = 0
    · rw [if_pos (by rw [c64_eq (by omega) (by omega)]; exact e), up_eq, cL_, d4, if_pos (by
        rw [c64_eq (by omega) (by omega), ← hua, ← hAA, odds_none e, Nat.zero_div])]
      exact last
    · rw [if_neg (by rw [c64_eq (by omega) (by omega)]; exact e)]
      exact last
  have l2339 : OkR (ff_la_law_2339 E S (u32 B.1) (u32 (2 ^ B.1 - 1)) a7 (u32 T) x (u32 ds.length) (u32 (hH (playV B ds).1)) (u32 (hO (playV B ds).1).length) (bre B ds) (u32 (nxt (playV B ds).1)) (u32 ws.length) (u64 (wys 0 (glOf ws) (playV B ds).1).length) (u32 (farL 0 (glOf ws) (playV B ds).1 0 ws.length)) (u32 p) (u64 (if (wys 0 (glOf ws) (playV B ds).1).length = 0 then 0 else 1)) (u64 (if (wys 0 (glOf ws) (playV B ds).1).length = 0 then 0 else 1)) w1) := by
    unfold ff_la_law_2339
    simp only [u32_lit, u64_lit]
    rw [if_pos (by rw [lg_eq0]), lo_eq, cL_, u0.2, if_pos (by rw [lg_eq0]), b1, cI_, if_pos rfl, up_eq, cL_, um.1, u32_64 (by omega), if_pos (by rw [lg_eq0]), lo_eq, cL_, um.2, if_pos (by rw [lg_eq0]), c1, cI_, if_pos rfl, up_eq, cL_, u12]
    by_cases e : ws.length = 0
    · rw [if_pos (show u32 ws.length = u32 0 by rw [e])]
      rw [if_pos e] at l2407 ⊢
      exact l2407
    · rw [if_neg (show ¬ u32 ws.length = u32 0 by rw [u32_eq (by omega) (by omega)]; exact e)]
      rw [if_neg e] at l2407 ⊢
      exact l2407
  unfold ff_la_law_2301
  simp only [u32_lit, u64_lit]
  rw [ep, cI_, a1, cI_, if_pos rfl, up_eq, cL_, u0.1]
  by_cases e : (wys 0 (glOf ws) (playV B ds).1).length = 0
  · rw [if_pos (show lg_cmp (u64 (wys 0 (glOf ws) (playV B ds).1).length) (u64 0) ≤ u32 0 by rw [c64_le (by omega) (by omega)]; omega)]
    rw [if_pos e] at l2339 ⊢
    exact l2339
  · rw [if_neg (show ¬ lg_cmp (u64 (wys 0 (glOf ws) (playV B ds).1).length) (u64 0) ≤ u32 0 by rw [c64_le (by omega) (by omega)]; omega)]
    rw [if_neg e] at l2339 ⊢
    exact l2339
