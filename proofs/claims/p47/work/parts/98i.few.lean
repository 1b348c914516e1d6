/-! pure: a turn of the law: by the fewest speakers told a row is said; ways, so far as told -/
theorem sub_out {a b : Nat} (ha : a < 64) (hb : b < 64) (h : ∀ k, a.testBit k = true → b.testBit k = true) : u32 a &&& (u32 b ^^^ -u32 1) = u32 0 := by
  have key : ∀ a, a < 64 → ∀ b, b < 64 → a &&& b = a → u32 a &&& (u32 b ^^^ -u32 1) = u32 0 := by decide +kernel
  refine key a ha b hb ?_
  apply Nat.eq_of_testBit_eq
  intro k
  rw [Nat.testBit_and]
  cases hk : a.testBit k with
  | false => rfl
  | true => rw [h k hk]; rfl
theorem play_n (B : HBase) (l : List Deed) : hN (playV B l).1 = B.1 := by
  induction l with
  | nil => rfl
  | cons d r ih =>
    have : hN (playV B (d :: r)).1 = hN (playV B r).1 := by
      show hN (perfV B (playV B r) d).1 = _
      unfold perfV
      split <;> rfl
    rw [this, ih]
theorem play_say (B : HBase) (l : List Deed) (i x : Nat) : (playV B ((0, i, x) :: l)).1 = pushV (playV B l).1 i x := rfl
theorem L933 {E : Nat × (Nat → Int32)} {S : Int32 → Int32 → Int64 → Int32 → sm_Mem → sm_R} {wb : sm_Mem} {B : HBase} {ds : List Deed} {T : Nat} {a7 : Int64} {x : Int32} {ws : List Nat} (hS : TC S wb B ds T a7) (hl : ws.length ≤ 4) {q : List Nat} {each : Nat} (hq : q ∈ wys 0 (glOf ws) (playV B ds).1) (hea : each = inAllV (wys 0 (glOf ws) (playV B ds).1)) : ∀ (m k F : Nat) (w : sm_Mem) (dk : List Deed), k + m = ws.length → m < F → RHs w B dk → LO wb w B (playV B ds) → 0 < B.1 → RowW w 0 ws → WA w ws → w.1 4 1 = u32 ws.length → (∀ j y, q[j]? = some y → w.1 5 j = u32 y) → dk.length = ds.length + k → dk.drop k = ds → (hO (playV B dk).1).length = (hO (playV B ds).1).length + k → q.drop k ∈ wys 0 (glOf (ws.drop k)) (playV B dk).1 → OkR (ff_la_law_933_f E S F (u32 B.1) (u32 (2 ^ B.1 - 1)) a7 (u32 T) x (u32 ds.length) (u32 (hH (playV B ds).1)) (u32 (hO (playV B ds).1).length) (bre B ds) (u32 (nxt (playV B ds).1)) (oAns (lastW (hO (playV B ds).1))) (u32 ws.length) (u64 (wys 0 (glOf ws) (playV B ds).1).length) (u32 each) (u32 (farL 0 (glOf ws) (playV B ds).1 0 ws.length)) (u32 (wys 0 (glOf (ws.take (farL 0 (glOf ws) (playV B ds).1 0 ws.length))) (playV B ds).1).length) (u32 (popV (usedN q))) (u32 (usedN (q.take k))) (u32 k) w) := by
  have hd9 := hS.1
  intro m
  induction m with
  | zero =>
    intro k F w dk hk hF h1 h2 h0 hr hw h4 h5 d1 d2 d3 d4
    obtain ⟨F, rfl⟩ : ∃ G, F = G + 1 := ⟨F - 1, by omega⟩
    obtain ⟨hok, hn, -, n6⟩ := h1.n
    have hqe := wys_each _ _ q hq
    rw [glOf_len] at hqe
    obtain ⟨q1, q2⟩ := hqe
    have hNn : hN (playV B ds).1 = B.1 := play_n B ds
    have hu64 : usedN q < 64 := used_lt (n := 6) (fun i hi => by have := q2 i hi; omega)
    have hel : each < 64 := by
      rw [hea]
      exact inAll_lt (n := 6) (fun p hp i hi => by
        have := (wys_each _ _ p hp).2 i hi
        omega)
    have tk : q.take k = q := List.take_of_length_le (by omega)
    have hso := sub_out hel hu64 (fun j hj => by
      rw [hea] at hj
      exact used_bit.mpr (inAll_sub hq hj))
    have hat := ch_at_no (r := 1) (n := ws.length) (i := ws.length) (w := w) (by decide) (by omega) h4 (by omega) (by omega)
    have h2' := h2.a (AFr.ref (w := w) (f := 2))
    have hr' : RowW (wcRef 2 w) 0 ws := hr.a (by decide) AFr.ref
    have hw' : WA (wcRef 2 w) ws := hw.fr (wcRef_ne (by decide) (by decide))
    rw [ff_la_law_933_f]
    unfold ff_la_law_933_b
    simp only [u32_lit, neg1_lit]
    rw [if_pos (by rw [u32_le (by omega) (by omega)]; omega), tk, la_bits hu64, cI_, if_pos rfl, hso, if_pos rfl, hat, cI_, if_pos rfl]
    by_cases e : ws.length = 0
    · rw [if_pos (by rw [u32_le (by omega) (by omega)]; omega)]
      have hk0 : k = 0 := by omega
      rw [hk0] at d2
      have d2 : dk = ds := d2
      rw [d2] at h1
      exact L1062 hS ⟨h1.ref, h2', h0⟩ hr' hl hw'
    · rw [if_neg (by rw [u32_le (by omega) (by omega)]; omega)]
      obtain ⟨w1, a1, a2, a3⟩ := ch_undo (n := ds.length) h1.ref (by omega)
      rw [show dk.length - ds.length = k by omega] at a1 a2
      rw [d2] at a2
      rw [a1, cI_, if_pos (by rw [show k = ws.length by omega])]
      exact L1062 hS ⟨a2, h2'.a (AFr.d a3), h0⟩ (hr'.a (by decide) (AFr.d a3)) hl (hw'.fr (a3.1 64 (by omega)))
  | succ m ih =>
    intro k F w dk hk hF h1 h2 h0 hr hw h4 h5 d1 d2 d3 d4
    obtain ⟨F, rfl⟩ : ∃ G, F = G + 1 := ⟨F - 1, by omega⟩
    obtain ⟨hok, hn, -, n6⟩ := h1.n
    have hqe := wys_each _ _ q hq
    rw [glOf_len] at hqe
    obtain ⟨q1, -⟩ := hqe
    have hkw : k < ws.length := by omega
    have hkq : k < q.length := by omega
    have hqk : q[k]? = some q[k] := List.getElem?_eq_getElem hkq
    have hwk : ws[k]? = some ws[k] := List.getElem?_eq_getElem hkw
    rw [List.drop_eq_getElem_cons hkq, List.drop_eq_getElem_cons hkw] at d4
    obtain ⟨i, r, e1, e2, e3, e4⟩ := way_cons.mp d4
    obtain ⟨rfl, rfl⟩ : i = q[k] ∧ r = q.drop (k + 1) := by
      have := List.cons.inj e1
      exact ⟨this.1.symm, this.2.symm⟩
    have hw6 := (hr.2 k _ hwk).2
    have ek := h5 k _ hqk
    have hat := ch_at (r := 1) (n := ws.length) (i := k) (w := w) (by decide) (by omega) h4 hkw
    rw [show w.1 (2 + 2 * 1 + 1) k = u32 q[k] from ek] at hat
    have h1' : RHs (sm_wI w 60 0 (u32 q[k])) B dk := h1.told (by omega)
    obtain ⟨w1, a1, a2, a3⟩ := ch_say h1' (by omega) (show q[k] < B.1 by omega) hw6 e3
    have fr : AFr w w1 := AFr.trans AFr.told (AFr.d a3)
    have ewk : (sm_wI w 60 0 (u32 q[k])).1 64 k = u32 ws[k] := by
      rw [sm_wI_ne (by decide)]
      exact hw k _ hwk
    have hul : usedN (q.take k) < 64 := used_lt (n := 6) (fun j hj => by
      have h3 := List.mem_of_mem_take hj
      have h4 := (wys_each _ _ q hq).2 j h3
      have hb : hN (playV B ds).1 = B.1 := play_n B ds
      omega)
    have eus : usedN (q.take k) ||| 2 ^ q[k] = usedN (q.take (k + 1)) := by
      rw [List.take_succ, hqk]
      show _ = usedN (q.take k ++ [q[k]])
      rw [usedN_snoc]
    rw [ff_la_law_933_f]
    unfold ff_la_law_933_b ff_la_law_960
    simp only [u32_lit, neg1_lit]
    rw [if_neg (by rw [u32_le (by omega) (by omega)]; omega), hat, cI_, if_pos rfl, as_eq, cI_, sm_wI_eq, if_neg (by rw [u0_lt (by omega)]; exact id), if_neg (by rw [u32_le (by omega) (by omega)]; omega), sm_rd_u (by omega) (by omega), bs_, ewk, a1, cI_, u32_add, u32_add, if_pos (by rw [d3]), u32_or_bit hul (by omega), eus, u32_add]
    refine ih (k + 1) F w1 ((0, q[k], ws[k]) :: dk) (by omega) (by omega) a2 (h2.a fr) h0 (hr.a (by decide) fr) (hw.fr (fr 64 (by omega))) (by rw [fr 4 (by omega)]; exact h4) (fun j y hj => by rw [fr 5 (by omega)]; exact h5 j y hj) (by rw [List.length_cons]; omega) ?_ ?_ (by rw [play_say]; exact e4)
    · show dk.drop k = ds
      exact d2
    · show ((ws[k], q[k]) :: hO (playV B dk).1).length = _
      rw [List.length_cons, d3]
      omega
theorem L908 {E : Nat × (Nat → Int32)} {S : Int32 → Int32 → Int64 → Int32 → sm_Mem → sm_R} {wb : sm_Mem} {B : HBase} {ds : List Deed} {T : Nat} {a7 : Int64} {x : Int32} {w : sm_Mem} {ws : List Nat} (hS : TC S wb B ds T a7) (h : SI wb w B ds) (hr : RowW w 0 ws) (hl : ws.length ≤ 4) (hw : WA w ws) {each : Nat} {fw : Int32} (hea : each = inAllV (wys 0 (glOf ws) (playV B ds).1)) (hfw : ¬ (wys 0 (glOf ws) (playV B ds).1).length = 0 → ∃ q, q ∈ wys 0 (glOf ws) (playV B ds).1 ∧ fw = u32 (popV (usedN q)) ∧ w.1 4 1 = u32 ws.length ∧ ∀ j y, q[j]? = some y → w.1 5 j = u32 y) : OkR (ff_la_law_908 E S (u32 B.1) (u32 (2 ^ B.1 - 1)) a7 (u32 T) x (u32 ds.length) (u32 (hH (playV B ds).1)) (u32 (hO (playV B ds).1).length) (bre B ds) (u32 (nxt (playV B ds).1)) (oAns (lastW (hO (playV B ds).1))) (u32 ws.length) (u64 (wys 0 (glOf ws) (playV B ds).1).length) (u32 each) (u32 (farL 0 (glOf ws) (playV B ds).1 0 ws.length)) (u32 (wys 0 (glOf (ws.take (farL 0 (glOf ws) (playV B ds).1 0 ws.length))) (playV B ds).1).length) fw w) := by
  obtain ⟨hok, hn, -, n6⟩ := h.1.n
  have hsm := wys_small (sil := 0) (gs := glOf ws) (H := (playV B ds).1) hok.1 (by rw [glOf_len]; omega)
  have hel : each < 64 := by
    rw [hea]
    exact inAll_lt (n := 6) (fun p hp i hi => by
      have := (wys_each _ _ p hp).2 i hi
      omega)
  have hpe : popV each ≤ ws.length := by
    rw [hea]
    by_cases z : (wys 0 (glOf ws) (playV B ds).1).length = 0
    · have : inAllV (wys 0 (glOf ws) (playV B ds).1) = 0 := by unfold inAllV; rw [if_pos z]
      rw [this]
      exact Nat.zero_le _
    · obtain ⟨q, hq⟩ := mem_of_ne z
      have h1 := wys_each _ _ q hq
      rw [glOf_len] at h1
      have := inAll_pop hq (fun i hi => by have := h1.2 i hi; omega)
      omega
  unfold ff_la_law_908
  simp only [u32_lit, u64_lit]
  rw [la_bits hel, cI_, if_pos (by rw [u32_le (by omega) (by omega)]; omega)]
  by_cases z : (wys 0 (glOf ws) (playV B ds).1).length = 0
  · rw [if_pos (by rw [c64_le (by omega) (by omega)]; omega)]
    exact L1062 hS h hr hl hw
  · rw [if_neg (by rw [c64_le (by omega) (by omega)]; omega)]
    obtain ⟨q, f1, f2, f3, f4⟩ := hfw z
    unfold ff_la_law_933
    rw [sm_N_eq, f2]
    exact L933 (E := E) (x := x) hS hl f1 hea ws.length 0 1000000 w ds (by omega) (by omega) h.1 h.2.1 h.2.2 hr hw f3 f4 rfl rfl rfl f1
theorem L750 {E : Nat × (Nat → Int32)} {S : Int32 → Int32 → Int64 → Int32 → sm_Mem → sm_R} {wb : sm_Mem} {B : HBase} {ds : List Deed} {T : Nat} {a7 : Int64} {x : Int32} {w : sm_Mem} {ws : List Nat} (hS : TC S wb B ds T a7) (h : SI wb w B ds) (hr : RowW w 0 ws) (hl : ws.length ≤ 4) (hw : WA w ws) (hask : w.1 60 0 = u32 (inAllV (wys 0 (glOf ws) (playV B ds).1))) : OkR (ff_la_law_750 E S (u32 B.1) (u32 (2 ^ B.1 - 1)) a7 (u32 T) x (u32 ds.length) (u32 (hH (playV B ds).1)) (u32 (hO (playV B ds).1).length) (bre B ds) (u32 (nxt (playV B ds).1)) (oAns (lastW (hO (playV B ds).1))) (u32 ws.length) (u64 (wys 0 (glOf ws) (playV B ds).1).length) w) := by
  obtain ⟨hok, hn, -, n6⟩ := h.1.n
  have h0 := h.2.2
  have hsm := wys_small (sil := 0) (gs := glOf ws) (H := (playV B ds).1) hok.1 (by rw [glOf_len]; omega)
  have hf4 := far_le4 (B := B) (ds := ds) hl
  have hff := far_full (sil := 0) (gs := glOf ws) (H := (playV B ds).1)
  obtain ⟨f1, f2, f3⟩ := far_spec (sil := 0) (gs := glOf ws) (H := (playV B ds).1)
  rw [glOf_len] at hff f1 f2 f3
  rw [glOf_take] at f1
  have hsp := wys_small (sil := 0) (gs := glOf (ws.take (farL 0 (glOf ws) (playV B ds).1 0 ws.length))) (H := (playV B ds).1) hok.1 (by rw [glOf_len, List.length_take]; omega)
  have hel : inAllV (wys 0 (glOf ws) (playV B ds).1) < 2 ^ B.1 := inAll_lt (fun p hp i hi => by
    have := (wys_each _ _ p hp).2 i hi
    omega)
  obtain ⟨w1, a1, a2, a3, -, a5⟩ := ch_far h.1 h0 (show 0 < 6 by decide) hr (by omega)
  rw [glOf_take] at a5
  have s1 := h.a a2 a3
  have r1 := hr.a (by decide) a3
  have hw1 : WA w1 ws := hw.fr (a3 64 (by omega))
  have hfew := ch_few (t := 1) s1.1 h0 (show 0 < 6 by decide) (by decide) r1 (by omega)
  -- what few answers, what it leaves
  obtain ⟨fw, w2, b1, s2, r2, hw2, b2, b3⟩ : ∃ (fw : Int32) (w2 : sm_Mem), ff_ho_few (u32 0) (u32 1) w1 = some (.int fw, w2) ∧ SI wb w2 B ds ∧ RowW w2 0 ws ∧ WA w2 ws ∧ ((wys 0 (glOf ws) (playV B ds).1).length = 0 → fw = -u32 9) ∧ (¬ (wys 0 (glOf ws) (playV B ds).1).length = 0 → ∃ q, q ∈ wys 0 (glOf ws) (playV B ds).1 ∧ fw = u32 (popV (usedN q)) ∧ w2.1 4 1 = u32 ws.length ∧ ∀ j y, q[j]? = some y → w2.1 5 j = u32 y) := by
    cases hb : (wys 0 (glOf ws) (playV B ds).1).foldl (bestS ws.length) none with
    | none =>
      rw [hb] at hfew
      obtain ⟨w2, c1, c2, c3, -, c5⟩ := hfew
      exact ⟨_, w2, c1, s1.a c2 c3, r1.a (by decide) c3, hw1.fr (c3 64 (by omega)), fun _ => rfl, fun z => absurd c5 z⟩
    | some b =>
      rw [hb] at hfew
      obtain ⟨w2, c1, c2, c3, -, c5, c6, c7⟩ := hfew
      rcases best_mem _ _ _ hb with e | ⟨e1, e2⟩
      · cases e
      · refine ⟨_, w2, c1, ⟨c2, s1.2.1.b (r := 1) (by decide) c3 (Or.inr ⟨ws.length, by omega, c6⟩), h0⟩, r1.fr (c3 _ (by omega) (by decide) (by decide)) (c3 _ (by omega) (by decide) (by decide)), hw1.fr (c3 64 (by omega) (by decide) (by decide)), fun z => absurd z (ne_of_mem e1), fun _ => ⟨b.2, e1, by rw [e2], c6, c7⟩⟩
  have l908 : OkR (ff_la_law_908 E S (u32 B.1) (u32 (2 ^ B.1 - 1)) a7 (u32 T) x (u32 ds.length) (u32 (hH (playV B ds).1)) (u32 (hO (playV B ds).1).length) (bre B ds) (u32 (nxt (playV B ds).1)) (oAns (lastW (hO (playV B ds).1))) (u32 ws.length) (u64 (wys 0 (glOf ws) (playV B ds).1).length) (u32 (inAllV (wys 0 (glOf ws) (playV B ds).1))) (u32 (farL 0 (glOf ws) (playV B ds).1 0 ws.length)) (u32 (wys 0 (glOf (ws.take (farL 0 (glOf ws) (playV B ds).1 0 ws.length))) (playV B ds).1).length) fw w2) := L908 hS s2 r2 hl hw2 rfl b3
  have l869 : ∀ b : Int32, OkR (ff_la_law_869 E S (u32 B.1) (u32 (2 ^ B.1 - 1)) a7 (u32 T) x (u32 ds.length) (u32 (hH (playV B ds).1)) (u32 (hO (playV B ds).1).length) (bre B ds) (u32 (nxt (playV B ds).1)) (oAns (lastW (hO (playV B ds).1))) (u32 ws.length) (u64 (wys 0 (glOf ws) (playV B ds).1).length) (u32 (inAllV (wys 0 (glOf ws) (playV B ds).1))) (u32 (farL 0 (glOf ws) (playV B ds).1 0 ws.length)) (u32 (wys 0 (glOf (ws.take (farL 0 (glOf ws) (playV B ds).1 0 ws.length))) (playV B ds).1).length) fw b b w2) := by
    intro b
    have hfl : ¬ u32 ws.length < fw ∧ ¬ u32 B.1 < fw := by
      by_cases z : (wys 0 (glOf ws) (playV B ds).1).length = 0
      · rw [b2 z, u32_lt_neg (by omega) (by decide) (by decide), u32_lt_neg (by omega) (by decide) (by decide)]
        exact ⟨id, id⟩
      · obtain ⟨q, e1, e2, -⟩ := b3 z
        have h1 := wys_each _ _ q e1
        rw [glOf_len] at h1
        have p1 := pop_used (q := q) (fun i hi => by have := h1.2 i hi; omega)
        have p2 : popV (usedN q) ≤ B.1 := by
          have key : ∀ n, n < 7 → ∀ e, e < 2 ^ n → popV e ≤ n := by decide +kernel
          exact key B.1 (by omega) _ (used_lt (fun i hi => by have := h1.2 i hi; omega))
        rw [e2, u32_lt (by omega) (by omega), u32_lt (by omega) (by omega)]
        omega
    unfold ff_la_law_869
    simp only [u32_lit, u64_lit, neg1_lit]
    rw [if_pos trivial, if_neg hfl.1, if_neg hfl.2, out_all n6 hel, if_pos rfl]
    by_cases z : (wys 0 (glOf ws) (playV B ds).1).length = 0
    · rw [if_pos (by rw [c64_eq (by omega) (by omega)]; exact z), if_pos (by unfold inAllV; rw [if_pos z])]
      exact l908
    · rw [if_neg (by rw [c64_eq (by omega) (by omega)]; exact z)]
      exact l908
  have l847 : OkR (ff_la_law_847 E S (u32 B.1) (u32 (2 ^ B.1 - 1)) a7 (u32 T) x (u32 ds.length) (u32 (hH (playV B ds).1)) (u32 (hO (playV B ds).1).length) (bre B ds) (u32 (nxt (playV B ds).1)) (oAns (lastW (hO (playV B ds).1))) (u32 ws.length) (u64 (wys 0 (glOf ws) (playV B ds).1).length) (u32 (inAllV (wys 0 (glOf ws) (playV B ds).1))) (u32 (farL 0 (glOf ws) (playV B ds).1 0 ws.length)) (u32 (wys 0 (glOf (ws.take (farL 0 (glOf ws) (playV B ds).1 0 ws.length))) (playV B ds).1).length) fw w2) := by
    unfold ff_la_law_847 ff_la_law_857
    simp only [u32_lit, u64_lit]
    by_cases z : (wys 0 (glOf ws) (playV B ds).1).length = 0
    · rw [if_neg (by rw [b2 z]; decide), if_pos (by rw [c64_eq (by omega) (by omega)]; exact z)]
      exact l869 _
    · obtain ⟨q, e1, e2, -⟩ := b3 z
      have p6 := pop_6 (usedN q)
      rw [if_pos (by rw [e2, u0_le (by omega)]; trivial), if_neg (by rw [c64_eq (by omega) (by omega)]; exact z)]
      exact l869 _
  have l828 : ∀ b : Int32, OkR (ff_la_law_828 E S (u32 B.1) (u32 (2 ^ B.1 - 1)) a7 (u32 T) x (u32 ds.length) (u32 (hH (playV B ds).1)) (u32 (hO (playV B ds).1).length) (bre B ds) (u32 (nxt (playV B ds).1)) (oAns (lastW (hO (playV B ds).1))) (u32 ws.length) (u64 (wys 0 (glOf ws) (playV B ds).1).length) (u32 (inAllV (wys 0 (glOf ws) (playV B ds).1))) (u32 (farL 0 (glOf ws) (playV B ds).1 0 ws.length)) (u32 (wys 0 (glOf (ws.take (farL 0 (glOf ws) (playV B ds).1 0 ws.length))) (playV B ds).1).length) fw b b w2) := by
    intro b
    unfold ff_la_law_828
    simp only [u32_lit]
    rw [if_pos trivial]
    by_cases e : farL 0 (glOf ws) (playV B ds).1 0 ws.length = ws.length
    · have et : ws.take (farL 0 (glOf ws) (playV B ds).1 0 ws.length) = ws := by rw [e, List.take_length]
      rw [if_pos (by rw [e]), if_pos (by rw [u32_64 (by omega), c64_eq (by omega) (by omega), et])]
      exact l847
    · rw [if_neg (by rw [u32_eq (by omega) (by omega)]; exact e)]
      exact l847
  unfold ff_la_law_750
  simp only [u32_lit, u64_lit]
  rw [as_eq, cI_, hask, a1, cI_, as_eq, cI_, a5, b1, cI_, if_neg (by rw [c64_lt (by omega) (by omega)]; omega), if_neg (by rw [u0_lt (by omega)]; exact id), if_neg (by rw [u32_lt (by omega) (by omega)]; omega), if_neg (by rw [u32_lt (by omega) (by omega)]; omega)]
  by_cases z : (wys 0 (glOf ws) (playV B ds).1).length = 0
  · rw [if_pos (by rw [c64_le (by omega) (by omega)]; omega)]
    unfold ff_la_law_816
    simp only [u32_lit]
    rw [if_neg (by rw [u32_eq (by omega) (by omega)]; exact hff.mp z)]
    exact l828 _
  · rw [if_neg (by rw [c64_le (by omega) (by omega)]; omega)]
    have e : farL 0 (glOf ws) (playV B ds).1 0 ws.length = ws.length := by
      rcases Nat.decEq (farL 0 (glOf ws) (playV B ds).1 0 ws.length) ws.length with q | q
      · exact absurd (hff.mpr q) z
      · exact q
    unfold ff_la_law_816
    simp only [u32_lit]
    rw [if_pos (by rw [e])]
    exact l828 _
theorem L676 {E : Nat × (Nat → Int32)} (hE : E.1 ≤ 260) {S : Int32 → Int32 → Int64 → Int32 → sm_Mem → sm_R} {wb : sm_Mem} {B : HBase} {ds : List Deed} {T : Nat} {a7 : Int64} {x : Int32} (hS : TC S wb B ds T a7) {L : Nat} (hL : L ≤ 4) : ∀ (m k F : Nat) (w : sm_Mem) (ws : List Nat), k + m = L → m < F → ws.length = k → SI wb w B ds → w.1 2 1 = u32 L → (∀ j y, ws[j]? = some y → w.1 3 j = u32 y ∧ w.1 64 j = u32 y ∧ y < 6) → OkR (ff_la_law_676_f E S F (u32 B.1) (u32 (2 ^ B.1 - 1)) a7 (u32 T) x (u32 ds.length) (u32 (hH (playV B ds).1)) (u32 (hO (playV B ds).1).length) (bre B ds) (u32 (nxt (playV B ds).1)) (oAns (lastW (hO (playV B ds).1))) (u32 L) (u32 k) w) := by
  have hT := hS.2.1
  intro m
  induction m with
  | zero =>
    intro k F w ws hk hF hwl h h2 hj
    obtain ⟨F, rfl⟩ : ∃ G, F = G + 1 := ⟨F - 1, by omega⟩
    have hLw : ws.length = L := by omega
    have hr : RowW w 0 ws := ⟨by rw [hLw]; exact h2, fun j y hy => ⟨(hj j y hy).1, (hj j y hy).2.2⟩⟩
    have hw : WA w ws := fun j y hy => (hj j y hy).2.1
    obtain ⟨w1, a1, a2, a3, a4, a5, a6⟩ := ch_ways h.1 h.2.2 (show 0 < 6 by decide) hr (by omega)
    have fin := L750 (E := E) (x := x) hS (h.a a2 a3) (hr.a (by decide) a3) (by omega) (hw.fr (a3 64 (by omega))) a6
    rw [ff_la_law_676_f]
    unfold ff_la_law_676_b
    simp only [u32_lit]
    rw [if_pos (by rw [u32_le (by omega) (by omega)]; omega), a1, cI_, if_pos rfl, up_eq, cL_, a4]
    rw [hLw] at fin
    exact fin
  | succ m ih =>
    intro k F w ws hk hF hwl h h2 hj
    obtain ⟨F, rfl⟩ : ∃ G, F = G + 1 := ⟨F - 1, by omega⟩
    obtain ⟨c, hc⟩ := la_cell E hE (13 + T) (by omega)
    obtain ⟨v, hv, ev⟩ := la_low (c >>> ((u32 5 * u32 k) &&& u32 31)) (show 0 < 6 by decide) (by decide)
    have s1 : SI wb (sm_wI w 64 k (u32 v)) B ds := ⟨h.1.told (by omega), h.2.1.w, h.2.2⟩
    obtain ⟨w1, a1, a2, a3, a4, a5, a6, -⟩ := lay_ok (r := 0) (n := L) (i := k) (u32 v) s1 (by decide) (by omega) (by rw [sm_wI_ne (by decide)]; exact h2) (by omega)
    rw [ff_la_law_676_f]
    unfold ff_la_law_676_b
    simp only [u32_lit]
    rw [if_neg (by rw [u32_le (by omega) (by omega)]; omega), u32_add, hc, cI_, ev, cI_, sm_wr_u (by omega) (by omega), bs_, sm_rd_u (by omega) (by omega), bs_, sm_wI_eq, a1, cI_, if_pos rfl, u32_add]
    refine ih (k + 1) F w1 (ws ++ [v]) (by omega) (by omega) (by rw [List.length_append, hwl]; rfl) a2 (by rw [show w1.1 2 = _ from a3, sm_wI_ne (by decide)]; exact h2) (fun j y hy => ?_)
    by_cases e : j < k
    · rw [List.getElem?_append_left (by omega)] at hy
      obtain ⟨g1, g2, g3⟩ := hj j y hy
      rw [show w1.1 3 j = _ from a5 j (by omega), sm_wI_ne (by decide), a6 64 (by decide) (by decide), sm_wI_nj (by omega)]
      exact ⟨g1, g2, g3⟩
    · rw [List.getElem?_append_right (by omega)] at hy
      have hjk : j = k := by
        have := (List.getElem?_eq_some_iff.mp hy).1
        rw [List.length_singleton] at this
        omega
      rw [hjk, hwl, Nat.sub_self] at hy
      cases hy
      rw [hjk]
      refine ⟨a4, ?_, hv⟩
      rw [a6 64 (by decide) (by decide), sm_wI_eq]
theorem L651 {E : Nat × (Nat → Int32)} (hE : E.1 ≤ 260) {S : Int32 → Int32 → Int64 → Int32 → sm_Mem → sm_R} {wb : sm_Mem} {B : HBase} {ds : List Deed} {T : Nat} {a7 : Int64} {x : Int32} {w : sm_Mem} (hS : TC S wb B ds T a7) (h : SI wb w B ds) : OkR (ff_la_law_651 E S (u32 B.1) (u32 (2 ^ B.1 - 1)) a7 (u32 T) x (u32 ds.length) (u32 (hH (playV B ds).1)) (u32 (hO (playV B ds).1).length) (bre B ds) (u32 (nxt (playV B ds).1)) (oAns (lastW (hO (playV B ds).1))) w) := by
  obtain ⟨L, hL, eL⟩ := la_low x (show 0 < 5 by decide) (by decide)
  obtain ⟨w1, a1, a2, a3, -, -⟩ := row_ok (r := 0) (n := L) h (by decide) (by omega)
  unfold ff_la_law_651 ff_la_law_676
  simp only [u32_lit]
  rw [eL, cI_, a1, cI_, if_pos rfl, sm_N_eq]
  exact L676 hE hS (L := L) (by omega) L 0 1000000 w1 [] (by omega) (by omega) rfl a2 a3 (fun j y hy => by cases hy)
