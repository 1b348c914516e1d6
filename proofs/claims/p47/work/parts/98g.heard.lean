/-! pure: a turn of the law: who said which part by the rooms -/
def nevN (n a : Nat) : Nat := (2 ^ n - 1) &&& (63 ^^^ a)
theorem nev_eq {n a : Nat} (hn : n ≤ 6) (ha : a < 64) : (((u32 1 <<< (u32 n &&& u32 31)) - u32 1) &&& (u32 a ^^^ -u32 1)) = u32 (nevN n a) ∧ nevN n a < 64 := by
  have key : ∀ n, n < 7 → ∀ a, a < 64 → (((u32 1 <<< (u32 n &&& u32 31)) - u32 1) &&& (u32 a ^^^ -u32 1)) = u32 (nevN n a) ∧ nevN n a < 64 := by decide +kernel
  exact key n (by omega) a ha
theorem nev_bit {n a k : Nat} (hn : n ≤ 6) (ha : a < 64) (h : (nevN n a).testBit k = true) : k < n ∧ a.testBit k = false := by
  have key : ∀ n, n < 7 → ∀ a, a < 64 → ∀ k, k < 6 → (nevN n a).testBit k = true → k < n ∧ a.testBit k = false := by decide +kernel
  exact key n (by omega) a ha k (bit_lt (n := 6) (nev_eq hn ha).2 h) h
theorem out_all {n e : Nat} (hn : n ≤ 6) (he : e < 2 ^ n) : u32 e &&& (u32 (2 ^ n - 1) ^^^ -u32 1) = u32 0 := by
  have key : ∀ n, n < 7 → ∀ e, e < 2 ^ n → u32 e &&& (u32 (2 ^ n - 1) ^^^ -u32 1) = u32 0 := by decide +kernel
  exact key n (by omega) e he
theorem two_64 {n e : Nat} (hn : n ≤ 6) (he : e < 2 ^ n) : e < 64 := Nat.lt_of_lt_of_le he (Nat.pow_le_pow_right (by decide) hn)
theorem and_none {a b : Nat} (h : ∀ k, a.testBit k = true → b.testBit k = true → False) : a &&& b = 0 := by
  apply Nat.eq_of_testBit_eq
  intro k
  rw [Nat.testBit_and, Nat.zero_testBit]
  cases ha : a.testBit k with
  | false => rfl
  | true =>
    cases hb : b.testBit k with
    | false => rfl
    | true => exact (h k ha hb).elim
theorem L1609 {E : Nat × (Nat → Int32)} {S : Int32 → Int32 → Int64 → Int32 → sm_Mem → sm_R} {wb : sm_Mem} {B : HBase} {ds : List Deed} {T : Nat} {a7 : Int64} {x : Int32} {w : sm_Mem} {ws : List Nat} (hS : TC S wb B ds T a7) (h : SI wb w B ds) (hr : RowW w 0 ws) (hl : ws.length ≤ 4) {gs : List Gl} {op : Option Nat} {hl2 : Nat} (hR3 : gs.length ≤ 3) (p3 : RowP w 3 gs) (p4 : RowW w 4 (gs.map (fun g => g.1))) (hop : op = (wys 0 gs (playV B ds).1).foldl (openS gs.length) none) (hask : w.1 60 0 = oAns op) (hh : hl2 = (wys 0 gs (playV B ds).1).length) : OkR (ff_la_law_1609 E S (u32 B.1) (u32 (2 ^ B.1 - 1)) a7 (u32 T) x (u32 ds.length) (u32 (hH (playV B ds).1)) (u32 (hO (playV B ds).1).length) (bre B ds) (u32 (nxt (playV B ds).1)) (oAns (lastW (hO (playV B ds).1))) (u32 ws.length) (u64 (wys 0 (glOf ws) (playV B ds).1).length) (u32 (farL 0 (glOf ws) (playV B ds).1 0 ws.length)) (u32 gs.length) (u64 hl2) w) := by
  obtain ⟨hok, hn, -, n6⟩ := h.1.n
  have h0 := h.2.2
  have hsm := wys_small (sil := 0) (gs := gs) (H := (playV B ds).1) hok.1 (by omega)
  have hsm4 := wys_small (sil := 0) (gs := glOf (gs.map (fun g => g.1))) (H := (playV B ds).1) hok.1 (by rw [glOf_len, List.length_map]; omega)
  have hrm := wys_room gs (playV B ds).1
  have heach : ∀ q, q ∈ wys 0 gs (playV B ds).1 → q.length = gs.length ∧ ∀ i, i ∈ q → i < B.1 := fun q hq => by
    obtain ⟨e1, e2⟩ := wys_each gs (playV B ds).1 q hq
    exact ⟨e1, fun i hi => by have := e2 i hi; omega⟩
  obtain ⟨w1, a1, a2, a3⟩ := ch_sure h.1 h0 (show 3 < 6 by decide) p3 (by omega)
  have s1 := h.a a1 a2
  have r1 := hr.a (by decide) a2
  have q4 := p4.a (by decide) a2
  obtain ⟨w2, b1, b2, b3, b4, b5, b6⟩ := ch_ways s1.1 h0 (show 4 < 6 by decide) q4 (by rw [List.length_map]; omega)
  have s2 := s1.a b2 b3
  have r2 := r1.a (by decide) b3
  unfold ff_la_law_1609
  simp only [u32_lit, u64_lit]
  rw [as_eq, cI_, hask]
  by_cases z : (wys 0 gs (playV B ds).1).length = 0
  · -- none
    obtain ⟨-, c2⟩ : _ ∧ _ := (a3.resolve_right (fun q => q.1 z))
    have op0 : op = none := by rw [hop, List.length_eq_zero_iff.mp z]; rfl
    rw [c2, cI_, as_eq, cI_, if_neg (by rw [c64_lt (by omega) (by omega)]; omega), b1, cI_, if_pos rfl, up_eq, cL_, b4, if_neg (by rw [c64_lt (by omega) (by omega)]; omega), op0, if_pos (show oAns none = -u32 9 from rfl)]
    unfold ff_la_law_1668 ff_la_law_1680 ff_la_law_1685 ff_la_law_1707 ff_la_law_1719
    simp only [u32_lit, u64_lit]
    have hz : lg_cmp (u64 hl2) (u64 0) = u32 0 := by rw [c64_eq (by omega) (by omega)]; omega
    rw [if_pos hz, if_pos trivial, if_neg (show ¬ u32 B.1 ≤ oAns none by
      show ¬ u32 B.1 ≤ -u32 9
      rw [u32_le_neg (by omega) (by decide) (by decide)]; exact id), if_pos trivial, if_pos hz, if_pos trivial, if_pos (by decide)]
    exact L1765 hS s2 r2 hl
  · obtain ⟨-, c2, c3⟩ : _ ∧ _ ∧ _ := (a3.resolve_left (fun q => z q.1))
    have hany := any_lt (n := B.1) (L := gs.length) (l := wys 0 gs (playV B ds).1) (fun q hq => (heach q hq).1) (fun q hq => (heach q hq).2)
    have hab := any_bit (L := gs.length) (wys 0 gs (playV B ds).1) 0
    generalize hav : (wys 0 gs (playV B ds).1).foldl (anyS gs.length) 0 = av at c3 hany
    obtain ⟨v1, v2⟩ := nev_eq n6 (two_64 n6 hany)
    have hsl := inAll_lt (l := wys 0 gs (playV B ds).1) (n := B.1) (fun q hq => (heach q hq).2)
    have hs64 := two_64 n6 hsl
    obtain ⟨q0, hq0⟩ := mem_of_ne z
    have hs0 : ¬ u32 (inAllV (wys 0 gs (playV B ds).1)) = -u32 3 := by rw [u32_eq_neg (by omega) (by decide) (by decide)]; exact id
    have hsn : inAllV (wys 0 gs (playV B ds).1) &&& nevN B.1 av = 0 := and_none (fun k e1 e2 => by
      have := (nev_bit n6 (two_64 n6 hany) e2).2
      have h2 := (hab k (fun q hq => (heach q hq).1)).mpr (Or.inr ⟨q0, hq0, inAll_sub hq0 e1⟩)
      rw [hav, this] at h2
      cases h2)
    have hnl : nevN B.1 av < 2 ^ B.1 := lt_of_bits (fun k hk => (nev_bit n6 (two_64 n6 hany) hk).1)
    obtain ⟨o1, o2⟩ := u32_or hs64 v2
    have hol : inAllV (wys 0 gs (playV B ds).1) ||| nevN B.1 av < 2 ^ B.1 := Nat.or_lt_two_pow hsl hnl
    have hz : ¬ lg_cmp (u64 hl2) (u64 0) = u32 0 := by rw [c64_eq (by omega) (by omega)]; omega
    have hsneg : ¬ u32 (inAllV (wys 0 gs (playV B ds).1)) < u32 0 := by rw [u0_lt (by omega)]; exact id
    rw [v1] at c3
    have l1719 : (∀ i, op = some i → i < B.1 ∧ (nevN B.1 av).testBit i = false) → OkR (ff_la_law_1719 E S (u32 B.1) (u32 (2 ^ B.1 - 1)) a7 (u32 T) x (u32 ds.length) (u32 (hH (playV B ds).1)) (u32 (hO (playV B ds).1).length) (bre B ds) (u32 (nxt (playV B ds).1)) (oAns (lastW (hO (playV B ds).1))) (u32 ws.length) (u64 (wys 0 (glOf ws) (playV B ds).1).length) (u32 (farL 0 (glOf ws) (playV B ds).1 0 ws.length)) (oAns op) (u32 (inAllV (wys 0 gs (playV B ds).1))) (u32 (nevN B.1 av)) (u32 0) (u32 0) w2) := by
      intro ho
      unfold ff_la_law_1719
      simp only [u32_lit, neg1_lit]
      rw [if_pos trivial, if_neg hsneg, u32_and6 hs64 v2, hsn, if_pos rfl, o1, out_all n6 hol, if_pos rfl]
      cases op with
      | none =>
        rw [if_pos (show oAns none < u32 0 by decide)]
        exact L1765 hS s2 r2 hl
      | some i =>
        obtain ⟨i1, i2⟩ := ho i rfl
        have ei : oAns (some i) = u32 i := rfl
        rw [ei, if_neg (by rw [u0_lt (by omega)]; exact id), u32_bit v2 (by omega), i2, if_pos (show u32 false.toNat = u32 0 from rfl)]
        exact L1765 hS s2 r2 hl
    have l1685 : ∀ b : Int32, (∀ i, op = some i → i < B.1 ∧ (nevN B.1 av).testBit i = false) → OkR (ff_la_law_1685 E S (u32 B.1) (u32 (2 ^ B.1 - 1)) a7 (u32 T) x (u32 ds.length) (u32 (hH (playV B ds).1)) (u32 (hO (playV B ds).1).length) (bre B ds) (u32 (nxt (playV B ds).1)) (oAns (lastW (hO (playV B ds).1))) (u32 ws.length) (u64 (wys 0 (glOf ws) (playV B ds).1).length) (u32 (farL 0 (glOf ws) (playV B ds).1 0 ws.length)) (u64 hl2) (oAns op) (u32 (inAllV (wys 0 gs (playV B ds).1))) (u32 (nevN B.1 av)) b b w2) := by
      intro b ho
      have hno : ¬ u32 B.1 ≤ oAns op := by
        cases hc : op with
        | none =>
          show ¬ u32 B.1 ≤ -u32 9
          rw [u32_le_neg (by omega) (by decide) (by decide)]
          exact id
        | some i =>
          have := (ho i hc).1
          show ¬ u32 B.1 ≤ u32 i
          rw [u32_le (by omega) (by omega)]
          omega
      unfold ff_la_law_1685 ff_la_law_1707
      simp only [u32_lit, u64_lit]
      rw [if_pos trivial, if_neg hno, if_neg hs0, if_neg hz]
      exact l1719 ho
    rw [c2, cI_, as_eq, cI_, c3, if_neg (by rw [c64_lt (by omega) (by omega)]; omega), b1, cI_, if_pos rfl, up_eq, cL_, b4, if_neg (by rw [c64_lt (by omega) (by omega)]; omega)]
    by_cases hg0 : gs.length = 0
    · have op0 : op = none := by
        rw [hop, hg0]
        exact open_zero _ (fun q hq => by rw [(heach q hq).1, hg0])
      have l := l1685 (u32 1) (fun i hi => by rw [op0] at hi; cases hi)
      rw [if_pos (show oAns op = -u32 9 by rw [op0]; rfl)]
      unfold ff_la_law_1668 ff_la_law_1680
      simp only [u32_lit, u64_lit]
      rw [if_neg hz, if_pos (by rw [hg0])]
      exact l
    · obtain ⟨i, hi, eo⟩ : ∃ i, (∃ q, q ∈ wys 0 gs (playV B ds).1 ∧ i ∈ q) ∧ op = some i := by
        cases hw : wys 0 gs (playV B ds).1 with
        | nil => rw [hw] at z; exact absurd rfl z
        | cons q l =>
          have hq := (heach q (by rw [hw]; exact List.mem_cons_self)).1
          obtain ⟨i, e1, e2⟩ := open_first (l := l) hq hg0
          exact ⟨i, ⟨q, List.mem_cons_self, e1⟩, by rw [hop, hw]; exact e2⟩
      obtain ⟨q, e1, e2⟩ := hi
      have hiN := (heach q e1).2 i e2
      have hib : av.testBit i = true := by
        rw [← hav]
        exact (hab i (fun q hq => (heach q hq).1)).mpr (Or.inr ⟨q, e1, e2⟩)
      have hnb : (nevN B.1 av).testBit i = false := by
        cases hb : (nevN B.1 av).testBit i with
        | false => rfl
        | true =>
          rw [(nev_bit n6 (two_64 n6 hany) hb).2] at hib
          cases hib
      have l := l1685 (u32 0) (fun j hj => by rw [eo] at hj; cases hj; exact ⟨hiN, hnb⟩)
      rw [if_neg (show ¬ oAns op = -u32 9 by
        rw [eo]
        show ¬ u32 i = -u32 9
        rw [u32_eq_neg (by omega) (by decide) (by decide)]; exact id)]
      unfold ff_la_law_1668
      simp only [u32_lit, u64_lit]
      rw [if_neg hz, if_neg (by rw [u32_eq (by omega) (by omega)]; exact hg0)]
      exact l
theorem L1496 {E : Nat × (Nat → Int32)} {S : Int32 → Int32 → Int64 → Int32 → sm_Mem → sm_R} {wb : sm_Mem} {B : HBase} {ds : List Deed} {T : Nat} {a7 : Int64} {x : Int32} {ws : List Nat} (hS : TC S wb B ds T a7) (hl : ws.length ≤ 4) {R : Nat} (hR3 : R ≤ 3) : ∀ (m k F : Nat) (w : sm_Mem) (gs : List Gl), k + m = R → m < F → gs.length = k → SI wb w B ds → RowW w 0 ws → w.1 8 1 = u32 (2 * R) → w.1 10 1 = u32 R → (∀ j g, gs[j]? = some g → w.1 9 (2 * j) = u32 g.1 ∧ w.1 9 (2 * j + 1) = oAns g.2 ∧ g.1 < 6 ∧ (∃ q, g.2 = some q ∧ q < 6) ∧ w.1 11 j = u32 g.1) → OkR (ff_la_law_1496_f E S F (u32 B.1) (u32 (2 ^ B.1 - 1)) a7 (u32 T) x (u32 ds.length) (u32 (hH (playV B ds).1)) (u32 (hO (playV B ds).1).length) (bre B ds) (u32 (nxt (playV B ds).1)) (oAns (lastW (hO (playV B ds).1))) (u32 ws.length) (u64 (wys 0 (glOf ws) (playV B ds).1).length) (u32 (farL 0 (glOf ws) (playV B ds).1 0 ws.length)) (u32 R) (u32 k) w) := by
  intro m
  induction m with
  | zero =>
    intro k F w gs hk hF hg h hr h8 h10 hj
    obtain ⟨F, rfl⟩ : ∃ G, F = G + 1 := ⟨F - 1, by omega⟩
    have h0 := h.2.2
    have hgR : gs.length = R := by omega
    have p3 : RowP w 3 gs := ⟨by rw [hgR]; exact h8, fun j g hg => ⟨(hj j g hg).1, (hj j g hg).2.1, (hj j g hg).2.2.1, (hj j g hg).2.2.2.1⟩⟩
    have p4 : RowW w 4 (gs.map (fun g => g.1)) := ⟨by rw [List.length_map, hgR]; exact h10, fun j y hy => by
      rw [List.getElem?_map] at hy
      cases hgj : gs[j]? with
      | none => rw [hgj] at hy; cases hy
      | some g =>
        rw [hgj] at hy
        cases hy
        exact ⟨(hj j g hgj).2.2.2.2, (hj j g hgj).2.2.1⟩⟩
    obtain ⟨w1, a1, a2, a3, a4, a5⟩ := ch_heard h.1 h0 (show 3 < 6 by decide) p3 (by omega)
    have s1 := h.a a2 a3
    have r1 := hr.a (by decide) a3
    rw [ff_la_law_1496_f]
    unfold ff_la_law_1496_b
    simp only [u32_lit]
    rw [if_pos (by rw [u32_le (by omega) (by omega)]; omega), a1, cI_, if_pos rfl, up_eq, cL_, a4]
    have fin := L1609 (E := E) (x := x) hS s1 r1 hl (by omega) (p3.a (by decide) a3) (p4.a (by decide) a3) rfl a5 rfl
    rw [hgR] at fin
    exact fin
  | succ m ih =>
    intro k F w gs hk hF hg h hr h8 h10 hj
    obtain ⟨F, rfl⟩ : ∃ G, F = G + 1 := ⟨F - 1, by omega⟩
    have h0 := h.2.2
    obtain ⟨hok, hn, -, n6⟩ := h.1.n
    obtain ⟨v, hv, ev⟩ := la_low (x >>> ((u32 5 + u32 3 * u32 k) &&& u32 31)) (show 0 < 6 by decide) (by decide)
    obtain ⟨i, hi, ei⟩ := la_low (x >>> ((u32 14 + u32 2 * u32 k) &&& u32 31)) h0 (show B.1 < 2147483648 by omega)
    have hr6 := (hok.2.1 i (by omega)).2.2.1
    obtain ⟨w1, a1, a2, a3, a4, a5, a6, -⟩ := lay_ok (r := 4) (n := R) (i := k) (u32 v) h (by decide) (by omega) h10 (by omega)
    have k8 : w1.1 (2 + 2 * 3) 1 = u32 (2 * R) := by rw [a6 _ (by decide) (by decide)]; exact h8
    obtain ⟨w2, b1, b2, b3, b4, b5, b6, -⟩ := lay_ok (r := 3) (n := 2 * R) (i := 2 * k) (u32 v) a2 (by decide) (by omega) k8 (by omega)
    have ht := la_told (x := 2) b2.1 hi (by decide)
    have f2 : factV B (playV B ds).1 i 2 = u32 (hR (playV B ds).1 i) := rfl
    rw [f2] at ht
    have s3 : SI wb (sm_wI w2 60 0 (u32 (hR (playV B ds).1 i))) B ds := b2.a (b2.1.told (by omega)) AFr.told
    have k8' : (sm_wI w2 60 0 (u32 (hR (playV B ds).1 i))).1 (2 + 2 * 3) 1 = u32 (2 * R) := by rw [sm_wI_ne (by decide), b3]; exact k8
    obtain ⟨w3, c1, c2, c3, c4, c5, c6, -⟩ := lay_ok (r := 3) (n := 2 * R) (i := 2 * k + 1) (u32 (hR (playV B ds).1 i)) s3 (by decide) (by omega) k8' (by omega)
    have e9 : ∀ j, j ≠ 2 * k → j ≠ 2 * k + 1 → w3.1 9 j = w.1 9 j := fun j x1 x2 => by
      rw [show w3.1 9 j = _ from c5 j x2, sm_wI_ne (by decide), show w2.1 (2 + 2 * 3 + 1) j = _ from b5 j x1, a6 _ (by decide) (by decide)]
    have e11 : ∀ j, j ≠ k → w3.1 11 j = w.1 11 j := fun j x1 => by
      rw [c6 11 (by decide) (by decide), sm_wI_ne (by decide), b6 11 (by decide) (by decide), show w1.1 11 j = _ from a5 j x1]
    rw [ff_la_law_1496_f]
    unfold ff_la_law_1496_b
    simp only [u32_lit]
    rw [if_neg (by rw [u32_le (by omega) (by omega)]; omega), ev, cI_, a1, cI_, if_pos rfl, u32_mul, b1, cI_, if_pos rfl]
    rw [u32_mul] at ei
    rw [ei, cI_, ht, cI_, u32_add, c1, cI_, if_pos rfl, u32_add]
    refine ih (k + 1) F w3 (gs ++ [(v, some (hR (playV B ds).1 i))]) (by omega) (by omega) (by rw [List.length_append, hg]; rfl) c2 ?_ ?_ ?_ (fun j g hgj => ?_)
    · refine hr.fr ?_ ?_
      · rw [c6 _ (by decide) (by decide), sm_wI_ne (by decide), b6 _ (by decide) (by decide), a6 _ (by decide) (by decide)]
      · rw [c6 _ (by decide) (by decide), sm_wI_ne (by decide), b6 _ (by decide) (by decide), a6 _ (by decide) (by decide)]
    · rw [show w3.1 8 = _ from c3]
      exact k8'
    · rw [c6 10 (by decide) (by decide), sm_wI_ne (by decide), b6 10 (by decide) (by decide), show w1.1 10 = _ from a3]
      exact h10
    · by_cases e : j < k
      · rw [List.getElem?_append_left (by omega)] at hgj
        obtain ⟨g1, g2, g3, g4, g5⟩ := hj j g hgj
        rw [e9 (2 * j) (by omega) (by omega), e9 (2 * j + 1) (by omega) (by omega), e11 j (by omega)]
        exact ⟨g1, g2, g3, g4, g5⟩
      · rw [List.getElem?_append_right (by omega)] at hgj
        have hjk : j = k := by
          have := (List.getElem?_eq_some_iff.mp hgj).1
          rw [List.length_singleton] at this
          omega
        rw [hjk, hg, Nat.sub_self] at hgj
        cases hgj
        rw [hjk]
        refine ⟨?_, c4, hv, ⟨_, rfl, hr6⟩, ?_⟩
        · rw [show w3.1 9 (2 * k) = _ from c5 (2 * k) (by omega), sm_wI_ne (by decide)]
          exact b4
        · rw [c6 11 (by decide) (by decide), sm_wI_ne (by decide), b6 11 (by decide) (by decide)]
          exact a4
theorem L1453 {E : Nat × (Nat → Int32)} {S : Int32 → Int32 → Int64 → Int32 → sm_Mem → sm_R} {wb : sm_Mem} {B : HBase} {ds : List Deed} {T : Nat} {a7 : Int64} {x : Int32} {w : sm_Mem} {ws : List Nat} (hS : TC S wb B ds T a7) (h : SI wb w B ds) (hr : RowW w 0 ws) (hl : ws.length ≤ 4) : OkR (ff_la_law_1453 E S (u32 B.1) (u32 (2 ^ B.1 - 1)) a7 (u32 T) x (u32 ds.length) (u32 (hH (playV B ds).1)) (u32 (hO (playV B ds).1).length) (bre B ds) (u32 (nxt (playV B ds).1)) (oAns (lastW (hO (playV B ds).1))) (u32 ws.length) (u64 (wys 0 (glOf ws) (playV B ds).1).length) (u32 (farL 0 (glOf ws) (playV B ds).1 0 ws.length)) w) := by
  obtain ⟨R, hR, eR⟩ := la_low (x >>> (u32 3 &&& u32 31)) (show 0 < 4 by decide) (by decide)
  obtain ⟨w1, a1, a2, a3, a4, -⟩ := row_ok (r := 3) (n := 2 * R) h (by decide) (by omega)
  have r1 : RowW w1 0 ws := hr.fr (a4 _ (by decide) (by decide)) (a4 _ (by decide) (by decide))
  obtain ⟨w2, b1, b2, b3, b4, -⟩ := row_ok (r := 4) (n := R) a2 (by decide) (by omega)
  have r2 : RowW w2 0 ws := r1.fr (b4 _ (by decide) (by decide)) (b4 _ (by decide) (by decide))
  unfold ff_la_law_1453 ff_la_law_1496
  simp only [u32_lit]
  rw [eR, cI_, u32_mul, a1, cI_, if_pos rfl, b1, cI_, if_pos rfl, sm_N_eq]
  exact L1496 hS hl (R := R) (by omega) R 0 1000000 w2 [] (by omega) (by omega) rfl b2 r2 (by rw [b4 8 (by decide) (by decide)]; exact a3) b3 (fun j g hg => by cases hg)
