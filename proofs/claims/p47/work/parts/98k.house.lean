/-! pure: the law's house made: its text, its rows -/
theorem int8_u {n : Nat} (h : n < 128) : (u32 n).toInt8.toInt32 = u32 n := by
  have key : ∀ n, n < 128 → (u32 n).toInt8.toInt32 = u32 n := by decide +kernel
  exact key n h
theorem and63 (x : Int32) : ∃ m, m < 64 ∧ x &&& u32 63 = u32 m := by
  rcases u32_cases (x &&& u32 63) with h | ⟨m, hm, h⟩
  · rw [Int32.lt_iff_toInt_lt] at h
    have e0 : (u32 0).toInt = 0 := rfl
    rw [e0] at h
    have h2 : ((x &&& u32 63).toBitVec).msb = false := by
      show (x.toBitVec &&& (u32 63).toBitVec).msb = false
      rw [BitVec.msb_and]
      have : ((u32 63).toBitVec).msb = false := by decide
      rw [this, Bool.and_false]
    rw [BitVec.msb_eq_toInt, decide_eq_false_iff_not] at h2
    exact absurd h h2
  · refine ⟨m, ?_, h⟩
    have e1 := congrArg (fun z : Int32 => z.toBitVec.toNat) h
    have e2 : (x &&& u32 63).toBitVec.toNat = x.toBitVec.toNat &&& 63 := by
      show (x.toBitVec &&& (u32 63).toBitVec).toNat = _
      rw [BitVec.toNat_and]
      rfl
    have e3 : (u32 m).toBitVec.toNat = m := by
      show (BitVec.ofNat 32 m).toNat = m
      rw [BitVec.toNat_ofNat]
      exact Nat.mod_eq_of_lt (by omega)
    have e1 : (x &&& u32 63).toBitVec.toNat = (u32 m).toBitVec.toNat := e1
    rw [e2, e3] at e1
    have := Nat.and_le_right (n := x.toBitVec.toNat) (m := 63)
    omega
theorem la_letter {k : Nat} (hk : k < 6) : ∃ c, c < 128 ∧ kOf (u32 c) = some k ∧ ∀ w, ff_la_letter (u32 k) w = some (.int (u32 c), w) := by
  rcases (show k = 0 ∨ k = 1 ∨ k = 2 ∨ k = 3 ∨ k = 4 ∨ k = 5 by omega) with rfl | rfl | rfl | rfl | rfl | rfl
  · exact ⟨118, by decide, by decide, fun w => rfl⟩
  · exact ⟨112, by decide, by decide, fun w => rfl⟩
  · exact ⟨115, by decide, by decide, fun w => rfl⟩
  · exact ⟨110, by decide, by decide, fun w => rfl⟩
  · exact ⟨109, by decide, by decide, fun w => rfl⟩
  · exact ⟨99, by decide, by decide, fun w => rfl⟩
theorem put_ok {q d : Nat} {w : sm_Mem} (h15 : w.1 15 1 = u32 40) (hb : w.1 16 q = u32 32) (hq : q < 40) (hd : d < 128) : ff_ho_put (u32 0) (u32 q) (u32 d) w = some (.int (u32 1032), sm_wI w 16 q (u32 d)) := by
  have e := ch_put (r := 0) (n := 40) (i := q) (v := u32 d) (w := w) (by decide) (by decide) h15 hq
  rw [int8_u hd] at e
  rw [e]
  show some (Value.int (w.1 16 q + u32 1000), sm_wI w 16 q (u32 d)) = _
  rw [hb, u32_add]
/-! an item in the text -/
def ItAt (f : Nat → Int32) (p : Nat) (x : It) : Prop := kOf (f p) = some x.1 ∧ f (p + 1) = u32 (48 + x.2.1 / 10) ∧ f (p + 2) = u32 (48 + x.2.1 % 10) ∧ f (p + 3) = u32 (48 + x.2.2.1) ∧ f (p + 4) = u32 (48 + x.2.2.2)
theorem dg_at {f : Nat → Int32} {n q lo hi d : Nat} (hq : q < n) (hf : f q = u32 (48 + d)) (h1 : lo ≤ d) (h2 : d ≤ hi) (h9 : hi ≤ 9) : dg f n q lo hi = some d := by
  unfold dg
  rw [if_pos hq, hf, if_pos ⟨by rw [u32_le (by omega) (by omega)]; omega, by rw [u32_le (by omega) (by omega)]; omega⟩, u32_toInt (by omega), Int.toNat_natCast, show 48 + d - 48 = d by omega]
theorem pit_at {f : Nat → Int32} {n p : Nat} {x : It} (h : ItAt f p x) (hx : itOk x) (h1 : 1 ≤ x.2.2.2) (hp : p + 4 < n) : pit f n p = .inr x := by
  obtain ⟨k, v, r, e⟩ := x
  obtain ⟨a1, a2, a3, a4, a5⟩ := h
  obtain ⟨b1, b2, b3, b4⟩ := hx
  have b2 : v < 64 := b2
  have b3 : r < 6 := b3
  have b4 : e ≤ 9 := b4
  have h1 : 1 ≤ e := h1
  have d1 : dg f n (p + 1) 0 9 = some (v / 10) := dg_at (by omega) a2 (by omega) (by omega) (by omega)
  have d2 : dg f n (p + 2) 0 9 = some (v % 10) := dg_at (by omega) a3 (by omega) (by omega) (by omega)
  have d3 : dg f n (p + 3) 0 5 = some r := dg_at (by omega) a4 (by omega) (by omega) (by omega)
  have d4 : dg f n (p + 4) 1 9 = some e := dg_at (by omega) a5 (by omega) (by omega) (by omega)
  unfold pit
  simp only [a1, d1, d2, d3, d4]
  rw [if_neg (by omega), show 10 * (v / 10) + v % 10 = v by omega]
theorem psr_tail {f : Nat → Int32} {it : List It} (h0 : ¬ it.length = 0) : ∀ (m p : Nat), p + m = 40 → (∀ q, p ≤ q → q < 40 → f q = u32 32) → psr f 40 p it = (none, it)
  | 0, p, hp, _ => by rw [psr_end (by omega), if_neg h0]
  | m + 1, p, hp, h => by
    rw [psr_blank (by omega) (h p (Nat.le_refl _) (by omega))]
    exact psr_tail h0 m (p + 1) (by omega) (fun q a b => h q (by omega) b)
theorem psr_all {f : Nat → Int32} {it : List It} (h6 : it.length ≤ 6) (h0 : ¬ it.length = 0) (hi : ∀ j x, it[j]? = some x → (itOk x ∧ 1 ≤ x.2.2.2) ∧ ItAt f (6 * j) x ∧ f (6 * j + 5) = u32 32) (hb : ∀ q, 6 * it.length ≤ q → q < 40 → f q = u32 32) : ∀ (m j : Nat), j + m = it.length → psr f 40 (6 * j) (it.take j) = (none, it)
  | 0, j, hj => by
    have e : j = it.length := by omega
    rw [e, List.take_length]
    exact psr_tail h0 (40 - 6 * it.length) _ (by omega) hb
  | m + 1, j, hj => by
    have hlt : j < it.length := by omega
    have hx : it[j]? = some it[j] := List.getElem?_eq_getElem hlt
    obtain ⟨⟨g1, g2⟩, g3, g4⟩ := hi j _ hx
    have hnb : ¬ f (6 * j) = u32 32 := fun e => by
      have k1 := g3.1
      rw [e] at k1
      have k2 : kOf (u32 32) = none := by decide
      rw [k2] at k1
      cases k1
    have et : it.take j ++ [it[j]] = it.take (j + 1) := by
      rw [List.take_add_one, hx]
      rfl
    rw [psr_item (by omega) hnb (by rw [List.length_take]; omega) (pit_at g3 g1 g2 (by omega)), psr_blank (by omega) g4, et]
    exact psr_all h6 h0 hi hb m (j + 1) (by omega)
/-! a speaker more -/
def HB (w0 w : sm_Mem) (N i : Nat) (it : List It) : Prop := it.length = i ∧ w.1 62 0 = u32 N ∧ (∀ j x, it[j]? = some x → (itOk x ∧ 1 ≤ x.2.2.2) ∧ w.1 62 (1 + j) = u32 x.1 ∧ w.1 62 (7 + j) = u32 x.2.1 ∧ w.1 62 (13 + j) = u32 x.2.2.2 ∧ w.1 63 (19 + j) = u32 x.2.2.1 ∧ w.1 63 (25 + j) = u32 x.2.2.2 ∧ ItAt (w.1 16) (6 * j) x ∧ w.1 16 (6 * j + 5) = u32 32) ∧ (∀ q, 6 * i ≤ q → q < 40 → w.1 16 q = u32 32) ∧ w.1 15 1 = u32 40 ∧ (w.1 63 0 = u32 0 ∧ w.1 63 1 = u32 0 ∧ w.1 63 2 = u32 0) ∧ ∀ a, a ≠ 15 → a ≠ 16 → a ≠ 62 → a ≠ 63 → w.1 a = w0.1 a
theorem it_lt {it : List It} {j : Nat} {x : It} (h : it[j]? = some x) : j < it.length := (List.getElem?_eq_some_iff.mp h).1
theorem HB.g {w0 w : sm_Mem} {N i q : Nat} {it : List It} {v : Int32} (h : HB w0 w N i it) (hi : i < 6) (hq : q = 1 + i ∨ q = 7 + i ∨ q = 13 + i) : HB w0 (sm_wI w 62 q v) N i it := by
  obtain ⟨h1, h2, h3, h4, h5, ⟨h6, h7, h8⟩, h9⟩ := h
  refine ⟨h1, by rw [sm_wI_nj (by omega)]; exact h2, fun j x hx => ?_, fun p a b => by rw [sm_wI_ne (by decide)]; exact h4 p a b, by rw [sm_wI_ne (by decide)]; exact h5, ⟨by rw [sm_wI_ne (by decide)]; exact h6, by rw [sm_wI_ne (by decide)]; exact h7, by rw [sm_wI_ne (by decide)]; exact h8⟩, fun a b c d e => by rw [sm_wI_ne d]; exact h9 a b c d e⟩
  have hj := it_lt hx
  obtain ⟨a1, a2, a3, a4, a5, a6, a7, a8⟩ := h3 j x hx
  refine ⟨a1, by rw [sm_wI_nj (by omega)]; exact a2, by rw [sm_wI_nj (by omega)]; exact a3, by rw [sm_wI_nj (by omega)]; exact a4, by rw [sm_wI_ne (by decide)]; exact a5, by rw [sm_wI_ne (by decide)]; exact a6, ?_, by rw [sm_wI_ne (by decide)]; exact a8⟩
  rw [sm_wI_ne (by decide)]
  exact a7
theorem la_211 {E : Nat × (Nat → Int32)} {self : Int32 → Int32 → Int32 → sm_Mem → sm_R} {a4 : Int32} {w0 w : sm_Mem} {N i k v r e : Nat} {it : List It} (h : HB w0 w N i it) (hi : i < 6) (hk : k < 6) (hv : v < 64) (hr : r < 6) (he : 1 ≤ e) (he9 : e ≤ 9) (g1 : w.1 62 (1 + i) = u32 k) (g2 : w.1 62 (7 + i) = u32 v) (g3 : w.1 62 (13 + i) = u32 e) : ∃ w1, ff_la_house_211 E self a4 (u32 1) (u32 i) (u32 (6 * i)) (u32 (19 + i)) (u32 r) w = self a4 (u32 1) (u32 (i + 1)) w1 ∧ HB w0 w1 N (i + 1) (it ++ [(k, v, r, e)]) := by
  obtain ⟨h1, h2, h3, h4, h5, ⟨h6, h7, h8⟩, h9⟩ := h
  obtain ⟨c, c1, c2, c3⟩ := la_letter hk
  have dv : v - v / 10 * 10 = v % 10 := by omega
  have b0 := h4 (6 * i) (by omega) (by omega)
  have b1 := h4 (6 * i + 1) (by omega) (by omega)
  have b2 := h4 (6 * i + 2) (by omega) (by omega)
  have b3 := h4 (6 * i + 3) (by omega) (by omega)
  have b4 := h4 (6 * i + 4) (by omega) (by omega)
  have b5 := h4 (6 * i + 5) (by omega) (by omega)
  refine ⟨sm_wI (sm_wI (sm_wI (sm_wI (sm_wI (sm_wI (sm_wI w 63 (19 + i) (u32 r)) 63 (25 + i) (u32 e)) 16 (6 * i) (u32 c)) 16 (6 * i + 1) (u32 (48 + v / 10))) 16 (6 * i + 2) (u32 (48 + v % 10))) 16 (6 * i + 3) (u32 (48 + r))) 16 (6 * i + 4) (u32 (48 + e)), ?_, ?_⟩
  · unfold ff_la_house_211
    simp only [u32_lit, u32_add]
    rw [sm_wr_u (by omega) (by omega), bs_, sm_rd_u (by omega) (by omega), bs_, sm_wI_ne (by decide), g3, sm_wr_u (by omega) (by omega), bs_, if_neg (by decide), sm_rd_u (by omega) (by omega), bs_, sm_wI_ne (by decide), sm_wI_ne (by decide), g1, c3, cI_]
    rw [put_ok (by simp (disch := omega) only [sm_wI_ne]; exact h5) (by simp (disch := omega) only [sm_wI_ne]; exact b0) (by omega) c1, cI_, if_pos rfl]
    rw [sm_rd_u (by omega) (by omega), bs_, if_neg (by decide), sm_wI_ne (by decide), sm_wI_ne (by decide), sm_wI_ne (by decide), g2, u32_div (by omega) (by omega), u32_add]
    rw [put_ok (by simp (disch := omega) only [sm_wI_ne]; exact h5) (by simp (disch := omega) only [sm_wI_ne, sm_wI_nj]; exact b1) (by omega) (by omega), cI_, if_pos rfl]
    rw [sm_rd_u (by omega) (by omega), bs_, if_neg (by decide), sm_wI_ne (by decide), sm_wI_ne (by decide), sm_wI_ne (by decide), sm_wI_ne (by decide), g2, u32_div (by omega) (by omega), u32_mul, u32_sub (by omega), dv, u32_add]
    rw [put_ok (by simp (disch := omega) only [sm_wI_ne]; exact h5) (by simp (disch := omega) only [sm_wI_ne, sm_wI_nj]; exact b2) (by omega) (by omega), cI_, if_pos rfl]
    rw [sm_rd_u (by omega) (by omega), bs_, sm_wI_ne (by decide), sm_wI_ne (by decide), sm_wI_ne (by decide), sm_wI_nj (by omega), sm_wI_eq, u32_add]
    rw [put_ok (by simp (disch := omega) only [sm_wI_ne]; exact h5) (by simp (disch := omega) only [sm_wI_ne, sm_wI_nj]; exact b3) (by omega) (by omega), cI_, if_pos rfl]
    rw [sm_rd_u (by omega) (by omega), bs_, sm_wI_ne (by decide), sm_wI_ne (by decide), sm_wI_ne (by decide), sm_wI_ne (by decide), sm_wI_ne (by decide), sm_wI_ne (by decide), g3, u32_add]
    rw [put_ok (by simp (disch := omega) only [sm_wI_ne]; exact h5) (by simp (disch := omega) only [sm_wI_ne, sm_wI_nj]; exact b4) (by omega) (by omega), cI_, if_pos rfl]
  · refine ⟨by rw [List.length_append, h1]; rfl, ?_, fun j x hx => ?_, fun q a b => ?_, ?_, ⟨?_, ?_, ?_⟩, fun a b c d e => ?_⟩
    · simp (disch := omega) only [sm_wI_ne]; exact h2
    · by_cases hj : j < i
      · rw [List.getElem?_append_left (by omega)] at hx
        obtain ⟨a1, a2, a3, a4, a5, a6, ⟨p1, p2, p3, p4, p5⟩, a8⟩ := h3 j x hx
        refine ⟨a1, ?_, ?_, ?_, ?_, ?_, ⟨?_, ?_, ?_, ?_, ?_⟩, ?_⟩ <;> simp (disch := omega) only [sm_wI_ne, sm_wI_nj] <;> assumption
      · have hl := it_lt hx
        rw [List.length_append, List.length_singleton] at hl
        have ej : j = i := by omega
        rw [List.getElem?_append_right (by omega), ej, h1, Nat.sub_self] at hx
        cases hx
        rw [ej]
        refine ⟨⟨⟨hk, hv, hr, he9⟩, he⟩, ?_, ?_, ?_, ?_, ?_, ⟨?_, ?_, ?_, ?_, ?_⟩, ?_⟩ <;> simp (disch := omega) only [sm_wI_ne, sm_wI_nj, sm_wI_eq] <;> assumption
    · simp (disch := omega) only [sm_wI_ne, sm_wI_nj]; exact h4 q (by omega) b
    · simp (disch := omega) only [sm_wI_ne]; exact h5
    · simp (disch := omega) only [sm_wI_ne, sm_wI_nj]; exact h6
    · simp (disch := omega) only [sm_wI_ne, sm_wI_nj]; exact h7
    · simp (disch := omega) only [sm_wI_ne, sm_wI_nj]; exact h8
    · simp (disch := omega) only [sm_wI_ne, sm_wI_nj]; exact h9 a b c d e
theorem la_168 {E : Nat × (Nat → Int32)} {self : Int32 → Int32 → Int32 → sm_Mem → sm_R} {a4 y b3 : Int32} {w0 w : sm_Mem} {N i k v md : Nat} {it : List It} (h : HB w0 w N i it) (hi : i < 6) (hk : k < 6) (hv : v < 64) (h0 : 0 < md) (h9 : md ≤ 9) (g1 : w.1 62 (1 + i) = u32 k) (g2 : w.1 62 (7 + i) = u32 v) : ∃ w1 x, ff_la_house_168 E self a4 (u32 1) (u32 i) y (u32 (6 * i)) (u32 (13 + i)) (u32 1) b3 (u32 md) w = self a4 (u32 1) (u32 (i + 1)) w1 ∧ HB w0 w1 N (i + 1) (it ++ [x]) := by
  obtain ⟨e, e1, e2⟩ := la_low b3 h0 (show md < 2147483648 by omega)
  obtain ⟨r2, r21, r22⟩ := la_low (y >>> (u32 20 &&& u32 31)) (show 0 < 2 by decide) (by decide)
  obtain ⟨r6, r61, r62⟩ := la_low (y >>> (u32 20 &&& u32 31)) (show 0 < 6 by decide) (by decide)
  have h' : HB w0 (sm_wI w 62 (13 + i) (u32 (1 + e))) N i it := h.g hi (by omega)
  have key : ∀ r, r < 6 → ∃ w1, ff_la_house_211 E self a4 (u32 1) (u32 i) (u32 (6 * i)) (u32 (19 + i)) (u32 r) (sm_wI w 62 (13 + i) (u32 (1 + e))) = self a4 (u32 1) (u32 (i + 1)) w1 ∧ HB w0 w1 N (i + 1) (it ++ [(k, v, r, 1 + e)]) := fun r hr => la_211 h' hi hk hv hr (by omega) (by omega) (by rw [sm_wI_nj (by omega)]; exact g1) (by rw [sm_wI_nj (by omega)]; exact g2) sm_wI_eq
  unfold ff_la_house_168
  simp only [u32_lit, u32_add]
  rw [e2, cI_, u32_add, sm_wr_u (by omega) (by omega), bs_, r22, cI_, r62, cI_]
  obtain ⟨w2, p1, p2⟩ := key r2 (by omega)
  obtain ⟨w6, q1, q2⟩ := key r6 r61
  by_cases c : ((a4 >>> (u32 22 &&& u32 31)) &&& u32 1) = u32 0
  · rw [if_pos c]
    exact ⟨w2, _, p1, p2⟩
  · rw [if_neg c]
    exact ⟨w6, _, q1, q2⟩
theorem la_139 {E : Nat × (Nat → Int32)} {self : Int32 → Int32 → Int32 → sm_Mem → sm_R} {a4 y : Int32} {w0 w : sm_Mem} {N i k v : Nat} {it : List It} (h : HB w0 w N i it) (hi : i < 6) (hk : k < 6) (hv : v < 64) (g1 : w.1 62 (1 + i) = u32 k) : ∃ w1 x, ff_la_house_139 E self a4 (u32 1) (u32 i) y (u32 (6 * i)) (u32 (7 + i)) (u32 v) w = self a4 (u32 1) (u32 (i + 1)) w1 ∧ HB w0 w1 N (i + 1) (it ++ [x]) := by
  have h' : HB w0 (sm_wI w 62 (7 + i) (u32 v)) N i it := h.g hi (by omega)
  have key : ∀ md, 0 < md → md ≤ 9 → ∃ w1 x, ff_la_house_168 E self a4 (u32 1) (u32 i) y (u32 (6 * i)) (u32 (13 + i)) (u32 1) (y >>> (u32 16 &&& u32 31)) (u32 md) (sm_wI w 62 (7 + i) (u32 v)) = self a4 (u32 1) (u32 (i + 1)) w1 ∧ HB w0 w1 N (i + 1) (it ++ [x]) := fun md h0 h9 => la_168 h' hi hk hv h0 h9 (by rw [sm_wI_nj (by omega)]; exact g1) sm_wI_eq
  unfold ff_la_house_139
  simp only [u32_lit, u32_add]
  rw [sm_wr_u (by omega) (by omega), bs_]
  by_cases c : ((a4 >>> (u32 21 &&& u32 31)) &&& u32 1) = u32 0
  · rw [if_pos c]
    exact key 9 (by decide) (by decide)
  · rw [if_neg c]
    exact key 3 (by decide) (by decide)
theorem ho_house_ok {w : sm_Mem} {it : List It} (hw : w.1 15 1 = u32 40) (hp : psr (w.1 16) 40 0 [] = (none, it)) : ∃ w2, ff_ho_house (u32 0) w = some (.int (u32 it.length), w2) ∧ RHs w2 (baseOf it) [] ∧ (∀ k, k < 3 → w2.1 (24 + 4 * k) 3 = -u32 9) ∧ (∀ a, (a < 24 ∨ 49 ≤ a) → w2.1 a = w.1 a) ∧ w2.2 = w.2 := by
  have hR : isRow 15 60 := isRow_text (r := 0) (by decide)
  obtain ⟨w1, a1, a2, a3, a4, a5, a6⟩ := hs_settle (items := it) hR (by decide) (show 40 ≤ 60 by decide) hw hp
  obtain ⟨l6, lok⟩ := psr_it (f := w.1 16) (n := 40) 40 0 [] (by omega) (by simp) (fun x hx => by cases hx)
  rw [hp] at l6 lok
  have hB := baseOf_ok l6 lok
  have l6 : it.length ≤ 6 := l6
  obtain ⟨w2, b1, b2, b3, b4, b5⟩ := ho_house_kept 3 0 1000000 w1 (by omega) (by omega)
  have hcn : w1.1 36 0 = u32 it.length := a2.1.1
  have m1 := miss_text_some (r := 0) (n := 40) (w := w) (by decide) (by decide) hw
  have m2 := ho_faultOf (n := 40) (w := w) hR (by decide) hw
  have m3 := rr_text (r := 0) (by decide)
  rw [show 15 + 2 * 0 = 15 from rfl] at m3
  rw [show w.1 (15 + 1) = w.1 16 from rfl, hp] at m2
  have m2 : ff_ho_faultOf 15 w = some (.int (-u32 9), w) := m2
  refine ⟨w2, ?_, ⟨hB, fun i hi => ?_, Nat.zero_le _, trivial, ⟨CH_fr (fun a h1 h2 => b3 a (by omega)) a2.1, ?_⟩, ⟨?_, trivial⟩⟩, fun k hk => b2 k (Nat.zero_le _) hk, fun a ha => (b3 a (by omega)).trans (a5 a (by omega)), b5.trans a6⟩
  · unfold ff_ho_house ff_ho_house_48
    simp only [u32_lit]
    rw [m1, cI_, if_pos rfl, m3, bs_, m2, cI_, if_pos rfl, bs_, a1, cV_, sm_N_eq, b1, hcn]
  · rw [b3 39 (by omega), b3 40 (by omega)]
    exact a3 i hi
  · rw [b3 36 (by omega)]
    exact a2.2
  · rw [b3 45 (by omega)]
    exact a4.1
theorem ho_fault_ok {w : sm_Mem} {it : List It} (hw : w.1 15 1 = u32 40) (hp : psr (w.1 16) 40 0 [] = (none, it)) : ff_ho_fault (u32 0) w = some (.int (-u32 9), w) := by
  have hR : isRow 15 60 := isRow_text (r := 0) (by decide)
  have m1 := miss_text_some (r := 0) (n := 40) (w := w) (by decide) (by decide) hw
  have m2 := ho_faultOf (n := 40) (w := w) hR (by decide) hw
  have m3 := rr_text (r := 0) (by decide)
  rw [show 15 + 2 * 0 = 15 from rfl] at m3
  rw [show w.1 (15 + 1) = w.1 16 from rfl, hp] at m2
  have m2 : ff_ho_faultOf 15 w = some (.int (-u32 9), w) := m2
  unfold ff_ho_fault
  simp only [u32_lit]
  rw [m1, cI_, if_pos rfl, m3, bs_, m2, cI_]
theorem la_62 {E : Nat × (Nat → Int32)} (hE : E.1 ≤ 260) {a4 : Int32} {w0 : sm_Mem} {N : Nat} (h0 : 0 < N) (h6 : N ≤ 6) : ∀ (m i F : Nat) (w : sm_Mem) (it : List It), i + m = N → m < F → HB w0 w N i it → ∃ w1 w2 it1, ff_la_house_62_f E F a4 (u32 1) (u32 i) w = some (.int (u32 1), w2) ∧ HB w0 w1 N N it1 ∧ psr (w1.1 16) 40 0 [] = (none, it1) ∧ RHs w2 (baseOf it1) [] ∧ (∀ k, k < 3 → w2.1 (24 + 4 * k) 3 = -u32 9) ∧ ∀ a, (a < 24 ∨ 49 ≤ a) → w2.1 a = w1.1 a := by
  intro m
  induction m with
  | zero =>
    intro i F w it hm hF h
    obtain ⟨F, rfl⟩ : ∃ G, F = G + 1 := ⟨F - 1, by omega⟩
    have ei : i = N := by omega
    rw [ei] at h ⊢
    have h' := h
    obtain ⟨h1, h2, h3, h4, h5, h67, h9⟩ := h
    have hp : psr (w.1 16) 40 0 [] = (none, it) := psr_all (f := w.1 16) (it := it) (by omega) (by omega) (fun j x hx => by
      obtain ⟨a1, a2, a3, a4, a5, a6, a7, a8⟩ := h3 j x hx
      exact ⟨a1, a7, a8⟩) (fun q a b => h4 q (by omega) b) it.length 0 (by omega)
    obtain ⟨w2, c1, c2, c3, c4, c5⟩ := ho_house_ok h5 hp
    refine ⟨w, w2, it, ?_, h', hp, c2, c3, c4⟩
    rw [ff_la_house_62_f]
    unfold ff_la_house_62_b
    simp only [u32_lit]
    rw [sm_rd_u (by omega) (by omega), bs_, h2, if_pos (by rw [u32_le (by omega) (by omega)]; omega), if_neg (by decide), ho_fault_ok h5 hp, cI_, if_pos rfl, c1, cI_, sm_rd_u (by omega) (by omega), bs_, c4 62 (by omega), h2, h1, if_pos rfl]
  | succ m ih =>
    intro i F w it hm hF h
    obtain ⟨F, rfl⟩ : ∃ G, F = G + 1 := ⟨F - 1, by omega⟩
    obtain ⟨y, hy⟩ := la_cell E hE (1 + i) (by omega)
    obtain ⟨k, hk, ek⟩ := la_low y (show 0 < 6 by decide) (by decide)
    have h' : HB w0 (sm_wI w 62 (1 + i) (u32 k)) N i it := h.g (by omega) (by omega)
    obtain ⟨v1, v11, v12⟩ := and63 ((y >>> (u32 3 &&& u32 31)) ||| (y >>> (u32 10 &&& u32 31)))
    obtain ⟨v2, v21, v22⟩ := and63 (y >>> (u32 3 &&& u32 31))
    have key : ∀ v, v < 64 → ∃ w1 x, ff_la_house_139 E (ff_la_house_62_f E F) a4 (u32 1) (u32 i) y (u32 (6 * i)) (u32 (7 + i)) (u32 v) (sm_wI w 62 (1 + i) (u32 k)) = ff_la_house_62_f E F a4 (u32 1) (u32 (i + 1)) w1 ∧ HB w0 w1 N (i + 1) (it ++ [x]) := fun v hv => la_139 h' (by omega) hk hv sm_wI_eq
    rw [ff_la_house_62_f]
    unfold ff_la_house_62_b
    simp only [u32_lit, u32_add, u32_mul]
    rw [sm_rd_u (by omega) (by omega), bs_, h.2.1, if_neg (by rw [u32_le (by omega) (by omega)]; omega), hy, cI_, ek, cI_, sm_wr_u (by omega) (by omega), bs_, v12, v22]
    by_cases c : ((a4 >>> (u32 20 &&& u32 31)) &&& u32 1) = u32 0
    · rw [if_pos c]
      obtain ⟨w1, x, p1, p2⟩ := key v1 v11
      rw [p1]
      exact ih (i + 1) F w1 _ (by omega) (by omega) p2
    · rw [if_neg c]
      obtain ⟨w1, x, p1, p2⟩ := key v2 v21
      rw [p1]
      exact ih (i + 1) F w1 _ (by omega) (by omega) p2
theorem la_22 {E : Nat × (Nat → Int32)} {a4 : Int32} : ∀ (m k F : Nat) (w : sm_Mem), k + m = 31 → m < F → (∀ j, j < k → w.1 63 j = u32 0) → ∃ w1, ff_la_house_22_f E F a4 (u32 k) w = ff_la_house_62 E a4 (u32 1) (u32 0) w1 ∧ (∀ j, j < 31 → w1.1 63 j = u32 0) ∧ w1.1 15 1 = u32 40 ∧ (∀ q, q < 40 → w1.1 16 q = u32 32) ∧ ∀ a, a ≠ 15 → a ≠ 16 → a ≠ 63 → w1.1 a = w.1 a := by
  intro m
  induction m with
  | zero =>
    intro k F w hm hF h
    obtain ⟨F, rfl⟩ : ∃ G, F = G + 1 := ⟨F - 1, by omega⟩
    refine ⟨sm_wA (sm_wI w 15 1 (u32 40)) 16 (fillF (w.1 16) 0 40 (u32 32)), ?_, fun j hj => ?_, ?_, fun q hq => ?_, fun a b c d => by rw [sm_wA_ne c, sm_wI_ne b]⟩
    · have e := ch_text (r := 0) (n := 40) (w := w) (by decide) (by decide)
      have e : ff_ho_text (u32 0) (u32 40) w = some (.int (u32 40), sm_wA (sm_wI w 15 1 (u32 40)) 16 (fillF (w.1 16) 0 40 (u32 32))) := e
      rw [ff_la_house_22_f]
      unfold ff_la_house_22_b
      simp only [u32_lit]
      rw [if_pos (by rw [u32_le (by omega) (by omega)]; omega), e, cI_, if_pos rfl]
    · rw [sm_wA_ne (by decide), sm_wI_ne (by decide)]
      exact h j (by omega)
    · rw [sm_wA_ne (by decide), sm_wI_eq]
    · rw [sm_wA_eq]
      exact if_pos ⟨Nat.zero_le _, hq⟩
  | succ m ih =>
    intro k F w hm hF h
    obtain ⟨F, rfl⟩ : ∃ G, F = G + 1 := ⟨F - 1, by omega⟩
    obtain ⟨w1, a1, a2, a3, a4', a5⟩ := ih (k + 1) F (sm_wI w 63 k (u32 0)) (by omega) (by omega) (fun j hj => by
      by_cases e : j = k
      · rw [e, sm_wI_eq]
      · rw [sm_wI_nj e]
        exact h j (by omega))
    refine ⟨w1, ?_, a2, a3, a4', fun a b c d => by rw [a5 a b c d, sm_wI_ne d]⟩
    rw [ff_la_house_22_f]
    unfold ff_la_house_22_b
    simp only [u32_lit]
    rw [if_neg (by rw [u32_le (by omega) (by omega)]; omega), sm_wr_u (by omega) (by omega), bs_, u32_add]
    exact a1
theorem la_house {E : Nat × (Nat → Int32)} (hE : E.1 ≤ 260) {w : sm_Mem} : ∃ w1 it, ff_la_house E w = some (.int (u32 1), w1) ∧ psr (w1.1 16) 40 0 [] = (none, it) ∧ w1.1 15 1 = u32 40 ∧ RHs w1 (baseOf it) [] ∧ GV w1 (baseOf it) (playV (baseOf it) []) ∧ 0 < it.length ∧ (∀ k, k < 3 → w1.1 (24 + 4 * k) 3 = -u32 9) ∧ ∀ a, a < 24 → a ≠ 15 → a ≠ 16 → w1.1 a = w.1 a := by
  obtain ⟨x, hx⟩ := la_cell E hE 0 (by omega)
  obtain ⟨n, hn, en⟩ := la_low x (show 0 < 6 by decide) (by decide)
  obtain ⟨w1, a1, a2, a3, a4, a5⟩ := la_22 (E := E) (a4 := x) 31 0 1000000 (sm_wI w 62 0 (u32 (1 + n))) (by omega) (by omega) (fun j hj => absurd hj (Nat.not_lt_zero _))
  have hb : HB w1 w1 (1 + n) 0 [] := ⟨rfl, by rw [a5 62 (by decide) (by decide) (by decide), sm_wI_eq], fun j y hy => (by cases hy), fun q _ hq => a4 q hq, a3, ⟨a2 0 (by omega), a2 1 (by omega), a2 2 (by omega)⟩, fun _ _ _ _ _ => rfl⟩
  obtain ⟨w2, w3, it, b1, b2, b3, b4, b5, b6⟩ := la_62 hE (a4 := x) (w0 := w1) (N := 1 + n) (by omega) (by omega) (1 + n) 0 1000000 w1 [] (by omega) (by omega) hb
  obtain ⟨h1, h2, h3, h4, h5, ⟨h6, h7, h8⟩, h9⟩ := b2
  have hit : ∀ i, i < it.length → it[i]? = some (it.getD i dIt) := fun i hi => by rw [List.getD_eq_getElem?_getD, List.getElem?_eq_getElem hi]; rfl
  refine ⟨w3, it, ?_, by rw [b6 16 (by omega)]; exact b3, by rw [b6 15 (by omega)]; exact h5, b4, ⟨?_, fun i hi => ?_, ?_, ?_, ?_, trivial⟩, by omega, b5, fun a c d e => ?_⟩
  · unfold ff_la_house ff_la_house_22
    simp only [u32_lit]
    rw [hx, cI_, en, cI_, u32_add, sm_wr_u (by omega) (by omega), bs_, sm_N_eq, a1]
    unfold ff_la_house_62
    rw [sm_N_eq]
    exact b1
  · rw [b6 62 (by omega), h2, ← h1]
    rfl
  · obtain ⟨c1, c2, c3, c4, c5, c6, -⟩ := h3 i _ (hit i hi)
    rw [b6 62 (by omega), b6 63 (by omega)]
    exact ⟨c2, c3, c4, c5, c6⟩
  · rw [b6 63 (by omega)]
    exact h6
  · rw [b6 63 (by omega)]
    exact h7
  · rw [b6 63 (by omega)]
    exact h8
  · rw [b6 a (by omega), h9 a d e (by omega) (by omega), a5 a d e (by omega), sm_wI_ne (by omega)]
