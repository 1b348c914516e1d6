/-! pure: a turn of the law: the longest, the shortest that none can say, so far as told -/
theorem AFr.ref {w : sm_Mem} {f : Nat} : AFr w (wcRef f w) := fun a ha => wcRef_ne (by omega) (by omega)
theorem RHs.ref {w : sm_Mem} {B : HBase} {ds : List Deed} {f : Nat} (h : RHs w B ds) : RHs (wcRef f w) B ds := h.fr (fun a h1 h2 => wcRef_ne (by omega) (by omega))
theorem L1348 {E : Nat × (Nat → Int32)} {S : Int32 → Int32 → Int64 → Int32 → sm_Mem → sm_R} {wb : sm_Mem} {B : HBase} {ds : List Deed} {T : Nat} {a7 : Int64} {x : Int32} {w : sm_Mem} {ws : List Nat} (hS : TC S wb B ds T a7) (h : SI wb w B ds) (hr : RowW w 0 ws) (hl : ws.length ≤ 4) {dm : Int32} (hdm : (dumbF (playV B ds).1 1 3 = none ∧ dm = -u32 9) ∨ ∃ p, dumbF (playV B ds).1 1 3 = some p ∧ dm = u32 p.1) : OkR (ff_la_law_1348 E S (u32 B.1) (u32 (2 ^ B.1 - 1)) a7 (u32 T) x (u32 ds.length) (u32 (hH (playV B ds).1)) (u32 (hO (playV B ds).1).length) (bre B ds) (u32 (nxt (playV B ds).1)) (oAns (lastW (hO (playV B ds).1))) (u32 ws.length) (u64 (wys 0 (glOf ws) (playV B ds).1).length) (u32 (farL 0 (glOf ws) (playV B ds).1 0 ws.length)) dm w) := by
  obtain ⟨hok, hn, -, n6⟩ := h.1.n
  have h0 := h.2.2
  have hT := hS.2.1
  obtain ⟨-, hx2, -⟩ := nxt_spec (playV B ds).1
  unfold ff_la_law_1348
  simp only [u32_lit]
  by_cases e0 : T = 0
  · rw [if_pos (by rw [e0])]
    obtain ⟨w1, a1, a2, a3, a4, a5, a6⟩ := ch_longest h.1 h0 (show 2 < 6 by decide)
    have hlf := longF_le (H := (playV B ds).1) 4
    have hlok := longF_ok (H := (playV B ds).1) 4
    rw [sayP_w] at hlok
    have hlm := longF_most (H := (playV B ds).1) 4
    have hlz := long_zero (H := (playV B ds).1)
    have hd := dumbF_spec (H := (playV B ds).1) 3 1
    generalize hmo : (longF (playV B ds).1 4).1 = mo at *
    generalize (longF (playV B ds).1 4).2 = ms at *
    have s1 : SI wb w1 B ds := ⟨a2, h.2.1.b (by decide) a3 (Or.inr ⟨mo, by omega, by have := a6.1; rw [digL_len] at this; exact this⟩), h0⟩
    have r1 : RowW w1 0 ws := hr.fr (a3 _ (by omega) (by decide) (by decide)) (a3 _ (by omega) (by decide) (by decide))
    obtain ⟨w2, b1, b2, b3, b4, b5, b6⟩ := ch_ways s1.1 h0 (show 2 < 6 by decide) a6 (by rw [digL_len]; omega)
    have s2 := s1.a b2 b3
    have r2 := r1.a (by decide) b3
    have c2 : w2.1 (2 + 2 * 2) 1 = u32 mo := by
      have := (a6.a (by decide) b3).1
      rw [digL_len] at this
      exact this
    have hat := ch_at_no (r := 2) (n := mo) (i := mo) (w := w2) (by decide) (by omega) c2 (by omega) (by omega)
    have s3 : SI wb (wcRef 2 w2) B ds := s2.a s2.1.ref AFr.ref
    have r3 : RowW (wcRef 2 w2) 0 ws := r2.a (by decide) AFr.ref
    have hsm := wys_small (sil := 0) (gs := glOf (digL mo ms)) (H := (playV B ds).1) hok.1 (by rw [glOf_len, digL_len]; omega)
    have l1421 : OkR (ff_la_law_1421 E S (u32 B.1) (u32 (2 ^ B.1 - 1)) a7 (u32 T) x (u32 ds.length) (u32 (hH (playV B ds).1)) (u32 (hO (playV B ds).1).length) (bre B ds) (u32 (nxt (playV B ds).1)) (oAns (lastW (hO (playV B ds).1))) (u32 ws.length) (u64 (wys 0 (glOf ws) (playV B ds).1).length) (u32 (farL 0 (glOf ws) (playV B ds).1 0 ws.length)) (u32 mo) w1) := by
      unfold ff_la_law_1421
      simp only [u32_lit, u64_lit]
      rw [b1, cI_, if_pos rfl, up_eq, cL_, b4, if_neg (by rw [c64_lt (by omega) (by omega)]; omega), hat, cI_, if_pos rfl]
      exact L1453 hS s3 r3 hl
    have l1407 : OkR (ff_la_law_1407 E S (u32 B.1) (u32 (2 ^ B.1 - 1)) a7 (u32 T) x (u32 ds.length) (u32 (hH (playV B ds).1)) (u32 (hO (playV B ds).1).length) (bre B ds) (u32 (nxt (playV B ds).1)) (oAns (lastW (hO (playV B ds).1))) (u32 ws.length) (u64 (wys 0 (glOf ws) (playV B ds).1).length) (u32 (farL 0 (glOf ws) (playV B ds).1 0 ws.length)) dm (u32 mo) w1) := by
      unfold ff_la_law_1407
      simp only [u32_lit]
      rcases hdm with ⟨d1, d2⟩ | ⟨p, d1, d2⟩
      · rw [d2, if_pos (by decide)]
        exact l1421
      · rw [d1] at hd
        obtain ⟨p1, p2, p3, p4, p5⟩ := hd
        have hmp : p.1 - 1 ≤ mo := by
          by_cases e : p.1 = 1
          · omega
          · exact hlm (p.1 - 1) 0 (by omega) (Nat.pow_pos (by decide)) (p5 (p.1 - 1) (by omega) (by omega) 0 (Nat.pow_pos (by decide)))
        rw [d2, if_neg (by rw [u32_le (by omega) (by omega)]; omega), u32_sub (by omega), if_neg (by rw [u32_lt (by omega) (by omega)]; omega)]
        exact l1421
    have l1391 : ∀ b : Int32, OkR (ff_la_law_1391 E S (u32 B.1) (u32 (2 ^ B.1 - 1)) a7 (u32 T) x (u32 ds.length) (u32 (hH (playV B ds).1)) (u32 (hO (playV B ds).1).length) (bre B ds) (u32 (nxt (playV B ds).1)) (oAns (lastW (hO (playV B ds).1))) (u32 ws.length) (u64 (wys 0 (glOf ws) (playV B ds).1).length) (u32 (farL 0 (glOf ws) (playV B ds).1 0 ws.length)) dm (u32 mo) b b w1) := by
      intro b
      unfold ff_la_law_1391
      simp only [u32_lit]
      rw [if_pos trivial]
      rcases hdm with ⟨d1, d2⟩ | ⟨p, d1, d2⟩
      · rw [d1] at hd
        have hm3 : 3 ≤ mo := hlm 3 0 (by decide) (by decide) (hd 3 (by decide) (by decide) 0 (by decide))
        rw [if_pos d2, if_neg (by rw [u32_lt (by omega) (by omega)]; omega)]
        exact l1407
      · rw [d1] at hd
        obtain ⟨p1, p2, -⟩ := hd
        rw [if_neg (by rw [d2, u32_eq_neg (by omega) (by decide) (by decide)]; exact id)]
        exact l1407
    rw [a1, cI_, if_neg (by rw [u0_lt (by omega)]; exact id), if_neg (by rw [u32_lt (by omega) (by omega)]; omega)]
    by_cases z : mo = 0
    · rw [if_pos (by rw [z])]
      unfold ff_la_law_1381
      simp only [u32_lit]
      rw [if_pos (by rw [hlz.mp z])]
      exact l1391 _
    · rw [if_neg (by rw [u32_eq (by omega) (by omega)]; exact z)]
      unfold ff_la_law_1381
      simp only [u32_lit]
      rw [if_neg (by rw [u32_eq (by omega) (by omega)]; exact fun q => z (hlz.mpr q))]
      exact l1391 _
  · rw [if_neg (by rw [u32_eq (by omega) (by omega)]; exact e0)]
    exact L1453 hS h hr hl
/-- the index behind j words: -1 behind none -/
def ixd : Nat → Int32
  | 0 => -u32 1
  | j + 1 => u32 j
theorem ixd_dec {j : Nat} : ixd (j + 1) + -u32 1 = ixd j := by
  cases j with
  | zero => decide
  | succ k => exact dec_u
theorem L1267 {E : Nat × (Nat → Int32)} {S : Int32 → Int32 → Int64 → Int32 → sm_Mem → sm_R} {wb : sm_Mem} {B : HBase} {ds : List Deed} {T : Nat} {a7 : Int64} {x : Int32} {ws : List Nat} (hS : TC S wb B ds T a7) (hl : ws.length ≤ 4) {n s : Nat} (hd : dumbF (playV B ds).1 1 3 = some (n, s)) : ∀ (j F : Nat) (w : sm_Mem), j ≤ n → j < F → SI wb w B ds → RowW w 0 ws → (∀ k, j ≤ k → k < n → w.1 64 k = u32 (digN n s k)) → OkR (ff_la_law_1267_f E S F (u32 B.1) (u32 (2 ^ B.1 - 1)) a7 (u32 T) x (u32 ds.length) (u32 (hH (playV B ds).1)) (u32 (hO (playV B ds).1).length) (bre B ds) (u32 (nxt (playV B ds).1)) (oAns (lastW (hO (playV B ds).1))) (u32 ws.length) (u64 (wys 0 (glOf ws) (playV B ds).1).length) (u32 (farL 0 (glOf ws) (playV B ds).1 0 ws.length)) (u32 n) (u32 s) (u32 (s / 6 ^ (n - j))) (ixd j) w) := by
  have hsp := dumbF_spec (H := (playV B ds).1) 3 1
  rw [hd] at hsp
  obtain ⟨p1, p2, p3, p4, -⟩ := hsp
  have p1 : 1 ≤ n := p1
  have p2 : n < 1 + 3 := p2
  have p3 : s < 6 ^ n := p3
  have hs216 : s < 216 := by
    have : 6 ^ n ≤ 6 ^ 3 := Nat.pow_le_pow_right (by decide) (by omega)
    have e : (6 : Nat) ^ 3 = 216 := by decide
    omega
  intro j
  induction j with
  | zero =>
    intro F w hj hF h hr hw
    obtain ⟨F, rfl⟩ : ∃ G, F = G + 1 := ⟨F - 1, by omega⟩
    have h0 := h.2.2
    obtain ⟨hok, -⟩ := h.1.n
    obtain ⟨w1, a1, a2, a3, a4, -⟩ := row_ok (r := 2) (n := n) h (by decide) (by omega)
    have r1 : RowW w1 0 ws := hr.fr (a4 _ (by decide) (by decide)) (a4 _ (by decide) (by decide))
    obtain ⟨w2, b1, b2, b3, b4⟩ := la_laid (n := n) (m := n) (w := w1) (by omega) (by omega) (Nat.le_refl _) a3
    have s2 : SI wb w2 B ds := ⟨a2.1.fr (fun a h1 h2 => b3 a (by omega) (by omega)), a2.2.1.b (r := 2) (by decide) (fun a ha h1 h2 => b3 a h2 (by omega)) (Or.inr ⟨n, by omega, by rw [b3 _ (by decide) (by decide)]; exact a3⟩), h0⟩
    have r2 : RowW w2 0 ws := r1.fr (b3 _ (by decide) (by decide)) (b3 _ (by decide) (by decide))
    have q2 : RowW w2 2 (digL n s) := ⟨by rw [digL_len, b3 _ (by decide) (by decide)]; exact a3, fun k y hk => by
      obtain ⟨e1, e2⟩ := digL_at hk
      refine ⟨?_, by rw [e2]; exact Nat.mod_lt _ (by decide)⟩
      rw [show w2.1 (2 + 2 * 2 + 1) k = _ from b2 k e1, a4 _ (by decide) (by decide), hw k (Nat.zero_le _) e1, e2]⟩
    obtain ⟨w3, c1, c2, c3, c4, -⟩ := ch_ways s2.1 h0 (show 2 < 6 by decide) q2 (by rw [digL_len]; omega)
    have hz : (wys 0 (glOf (digL n s)) (playV B ds).1).length = 0 := by
      rcases Nat.eq_zero_or_pos (wys 0 (glOf (digL n s)) (playV B ds).1).length with q | q
      · exact q
      · have p5 : sayP (playV B ds).1 n s = false := p4
        rw [(sayP_w (H := (playV B ds).1) (n := n) (s := s)).mpr (by omega)] at p5
        cases p5
    have s3 := s2.a c2 c3
    have r3 := r2.a (by decide) c3
    have e0 : s / 6 ^ (n - 0) = 0 := Nat.div_eq_of_lt (by rw [Nat.sub_zero]; exact p3)
    rw [ff_la_law_1267_f]
    unfold ff_la_law_1267_b
    simp only [u32_lit, u64_lit]
    rw [if_pos (show ixd 0 < u32 0 by decide), e0, if_pos rfl, if_neg (by rw [u0_lt (by omega)]; exact id), a1, cI_, if_pos rfl, b1, cI_, if_neg (by decide), c1, cI_, if_pos rfl, up_eq, cL_, c4, if_pos (by rw [c64_eq (by omega) (by omega)]; exact hz)]
    exact L1348 hS s3 r3 hl (Or.inr ⟨(n, s), hd, rfl⟩)
  | succ j ih =>
    intro F w hj hF h hr hw
    obtain ⟨F, rfl⟩ : ∃ G, F = G + 1 := ⟨F - 1, by omega⟩
    have hq : s / 6 ^ (n - (j + 1)) ≤ s := Nat.div_le_self _ _
    have e1 : u32 (s / 6 ^ (n - (j + 1))) - u32 (s / 6 ^ (n - (j + 1))) / u32 6 * u32 6 = u32 (digN n s j) := by
      unfold digN
      rw [show n - 1 - j = n - (j + 1) by omega]
      generalize s / 6 ^ (n - (j + 1)) = r at hq
      rw [u32_div (by omega) (by omega), u32_mul, u32_sub (by omega), show r - r / 6 * 6 = r % 6 by omega]
    have e2 : u32 (s / 6 ^ (n - (j + 1))) / u32 6 = u32 (s / 6 ^ (n - j)) := by
      rw [u32_div (by omega) (by omega), Nat.div_div_eq_div_mul, ← Nat.pow_succ, show (n - (j + 1)).succ = n - j by omega]
    have ixs : ixd (j + 1) = u32 j := rfl
    rw [ff_la_law_1267_f]
    unfold ff_la_law_1267_b
    simp only [u32_lit, neg1_lit]
    rw [e1, e2, ixd_dec, ixs, if_neg (by rw [u0_lt (by omega)]; exact id), if_neg (by decide), sm_wr_u (by omega) (by omega), bs_, if_neg (by decide)]
    refine ih F _ (by omega) (by omega) (⟨h.1.told (by omega), h.2.1.w, h.2.2⟩) (hr.fr (sm_wI_ne (by decide)) (sm_wI_ne (by decide))) (fun k k1 k2 => ?_)
    by_cases e : k = j
    · rw [e, sm_wI_eq]
    · rw [sm_wI_nj e]
      exact hw k (by omega) k2
theorem L1186 {E : Nat × (Nat → Int32)} {S : Int32 → Int32 → Int64 → Int32 → sm_Mem → sm_R} {wb : sm_Mem} {B : HBase} {ds : List Deed} {T : Nat} {a7 : Int64} {x : Int32} {w : sm_Mem} {ws : List Nat} (hS : TC S wb B ds T a7) (h : SI wb w B ds) (hr : RowW w 0 ws) (hl : ws.length ≤ 4) : OkR (ff_la_law_1186 E S (u32 B.1) (u32 (2 ^ B.1 - 1)) a7 (u32 T) x (u32 ds.length) (u32 (hH (playV B ds).1)) (u32 (hO (playV B ds).1).length) (bre B ds) (u32 (nxt (playV B ds).1)) (oAns (lastW (hO (playV B ds).1))) (u32 ws.length) (u64 (wys 0 (glOf ws) (playV B ds).1).length) (u32 (farL 0 (glOf ws) (playV B ds).1 0 ws.length)) w) := by
  have h0 := h.2.2
  obtain ⟨w1, a1, a2, -, a4⟩ := ch_dumb h.1 h0
  have s1 := h.a a1 a2
  have r1 := hr.a (by decide) a2
  obtain ⟨-, hx2, -⟩ := nxt_spec (playV B ds).1
  have hone := dumb_one (H := (playV B ds).1)
  have hsp := dumbF_spec (H := (playV B ds).1) 3 1
  unfold ff_la_law_1186
  simp only [u32_lit]
  cases hd : dumbF (playV B ds).1 1 3 with
  | none =>
    rw [hd] at a4 hone
    have h63 : nxt (playV B ds).1 = 63 := by
      rcases Nat.decEq (nxt (playV B ds).1) 63 with q | q
      · obtain ⟨y, hy⟩ := hone.mpr q
        cases hy
      · exact q
    rw [a4, cI_, as_eq, cI_, if_neg (by decide), if_neg (by decide), if_pos (by decide)]
    unfold ff_la_law_1224 ff_la_law_1235 ff_la_law_1247
    simp only [u32_lit]
    rw [if_neg (by decide), if_pos (by rw [h63]), if_pos trivial, if_pos (by decide)]
    exact L1348 hS s1 r1 hl (Or.inl ⟨hd, rfl⟩)
  | some p =>
    obtain ⟨n, s⟩ := p
    rw [hd] at a4 hone hsp
    obtain ⟨b1, b2⟩ := a4
    obtain ⟨p1, p2, p3, p4, -⟩ := hsp
    have p1 : 1 ≤ n := p1
    have p2 : n < 1 + 3 := p2
    have p3 : s < 6 ^ n := p3
    have loop : OkR (ff_la_law_1267 E S (u32 B.1) (u32 (2 ^ B.1 - 1)) a7 (u32 T) x (u32 ds.length) (u32 (hH (playV B ds).1)) (u32 (hO (playV B ds).1).length) (bre B ds) (u32 (nxt (playV B ds).1)) (oAns (lastW (hO (playV B ds).1))) (u32 ws.length) (u64 (wys 0 (glOf ws) (playV B ds).1).length) (u32 (farL 0 (glOf ws) (playV B ds).1 0 ws.length)) (u32 n) (u32 s) (u32 s) (u32 (n - 1)) w1) := by
      have hlp := L1267 (E := E) (x := x) hS hl hd n 1000000 w1 (Nat.le_refl _) (by omega) s1 r1 (fun k k1 k2 => absurd k1 (by omega))
      rw [Nat.sub_self, Nat.pow_zero, Nat.div_one] at hlp
      have ei : ixd n = u32 (n - 1) := by
        obtain ⟨m, rfl⟩ : ∃ m, n = m + 1 := ⟨n - 1, by omega⟩
        rfl
      rw [ei] at hlp
      unfold ff_la_law_1267
      rw [sm_N_eq]
      exact hlp
    have l1247 : ∀ b : Int32, OkR (ff_la_law_1247 E S (u32 B.1) (u32 (2 ^ B.1 - 1)) a7 (u32 T) x (u32 ds.length) (u32 (hH (playV B ds).1)) (u32 (hO (playV B ds).1).length) (bre B ds) (u32 (nxt (playV B ds).1)) (oAns (lastW (hO (playV B ds).1))) (u32 ws.length) (u64 (wys 0 (glOf ws) (playV B ds).1).length) (u32 (farL 0 (glOf ws) (playV B ds).1 0 ws.length)) (u32 n) (u32 s) b b w1) := by
      intro b
      unfold ff_la_law_1247
      simp only [u32_lit]
      rw [if_pos trivial, if_neg (by rw [u32_le (by omega) (by omega)]; omega), u32_sub (by omega)]
      exact loop
    rw [b1, cI_, as_eq, cI_, b2, if_neg (by rw [u32_lt_neg (by omega) (by decide) (by decide)]; exact id), if_neg (by rw [u32_lt (by omega) (by omega)]; omega), if_neg (by rw [u32_le_neg (by omega) (by decide) (by decide)]; exact id), if_neg (by rw [u32_lt (by omega) (by omega)]; omega)]
    unfold ff_la_law_1224 ff_la_law_1235
    simp only [u32_lit]
    by_cases e : n = 1
    · have hx : ¬ nxt (playV B ds).1 = 63 := hone.mp ⟨s, by rw [e]⟩
      rw [if_pos (by rw [e]), if_neg (by rw [u32_eq (by omega) (by omega)]; exact hx)]
      exact l1247 _
    · have hx : nxt (playV B ds).1 = 63 := by
        rcases Nat.decEq (nxt (playV B ds).1) 63 with q | q
        · obtain ⟨y, hy⟩ := hone.mpr q
          have := congrArg (fun z : Option (Nat × Nat) => (z.getD (0, 0)).1) hy
          exact absurd this e
        · exact q
      rw [if_neg (by rw [u32_eq (by omega) (by omega)]; exact e), if_pos (by rw [hx])]
      exact l1247 _
/-- the law's words -/
def WA (w : sm_Mem) (ws : List Nat) : Prop := ∀ j y, ws[j]? = some y → w.1 64 j = u32 y
theorem WA.fr {w w1 : sm_Mem} {ws : List Nat} (h : WA w ws) (he : w1.1 64 = w.1 64) : WA w1 ws := fun j y hj => by rw [he]; exact h j y hj
theorem take_at {α : Type} {l : List α} {f j : Nat} {y : α} (h : (l.take f)[j]? = some y) : j < f ∧ l[j]? = some y := by
  rw [List.getElem?_take] at h
  split at h
  · exact ⟨by assumption, h⟩
  · cases h
theorem L1079 {E : Nat × (Nat → Int32)} {S : Int32 → Int32 → Int64 → Int32 → sm_Mem → sm_R} {wb : sm_Mem} {B : HBase} {ds : List Deed} {T : Nat} {a7 : Int64} {x : Int32} {ws : List Nat} (hS : TC S wb B ds T a7) (hl : ws.length ≤ 4) : ∀ (m k F : Nat) (w : sm_Mem), k + m = farL 0 (glOf ws) (playV B ds).1 0 ws.length → m < F → SI wb w B ds → RowW w 0 ws → WA w ws → w.1 6 1 = u32 (farL 0 (glOf ws) (playV B ds).1 0 ws.length) → (∀ j y, j < k → ws[j]? = some y → w.1 7 j = u32 y) → OkR (ff_la_law_1079_f E S F (u32 B.1) (u32 (2 ^ B.1 - 1)) a7 (u32 T) x (u32 ds.length) (u32 (hH (playV B ds).1)) (u32 (hO (playV B ds).1).length) (bre B ds) (u32 (nxt (playV B ds).1)) (oAns (lastW (hO (playV B ds).1))) (u32 ws.length) (u64 (wys 0 (glOf ws) (playV B ds).1).length) (u32 (farL 0 (glOf ws) (playV B ds).1 0 ws.length)) (u32 (wys 0 (glOf (ws.take (farL 0 (glOf ws) (playV B ds).1 0 ws.length))) (playV B ds).1).length) (u32 k) w) := by
  have hfs := far_spec (sil := 0) (gs := glOf ws) (H := (playV B ds).1)
  rw [glOf_len] at hfs
  obtain ⟨f1, f2, f3⟩ := hfs
  rw [glOf_take] at f1 f2
  generalize hf : farL 0 (glOf ws) (playV B ds).1 0 ws.length = f at *
  intro m
  induction m with
  | zero =>
    intro k F w hk hF h hr hw h6 h7
    obtain ⟨F, rfl⟩ : ∃ G, F = G + 1 := ⟨F - 1, by omega⟩
    have h0 := h.2.2
    obtain ⟨hok, -⟩ := h.1.n
    have hlt : (ws.take f).length = f := by rw [List.length_take]; omega
    have p2 : RowW w 2 (ws.take f) := ⟨by rw [hlt]; exact h6, fun j y hj => by
      obtain ⟨e1, e2⟩ := take_at hj
      exact ⟨h7 j y (by omega) e2, (hr.2 j y e2).2⟩⟩
    obtain ⟨w1, a1, a2, a3, a4, -⟩ := ch_ways h.1 h0 (show 2 < 6 by decide) p2 (by omega)
    have s1 := h.a a2 a3
    have r1 := hr.a (by decide) a3
    have hsm := wys_small (sil := 0) (gs := glOf (ws.take f)) (H := (playV B ds).1) hok.1 (by rw [glOf_len]; omega)
    have fin : ∀ w', SI wb w' B ds → RowW w' 0 ws → OkR (ff_la_law_1186 E S (u32 B.1) (u32 (2 ^ B.1 - 1)) a7 (u32 T) x (u32 ds.length) (u32 (hH (playV B ds).1)) (u32 (hO (playV B ds).1).length) (bre B ds) (u32 (nxt (playV B ds).1)) (oAns (lastW (hO (playV B ds).1))) (u32 ws.length) (u64 (wys 0 (glOf ws) (playV B ds).1).length) (u32 f) w') := fun w' s r => by
      have := L1186 (E := E) (x := x) hS s r hl
      rw [hf] at this
      exact this
    rw [ff_la_law_1079_f]
    unfold ff_la_law_1079_b
    simp only [u32_lit, u64_lit]
    rw [if_pos (by rw [u32_le (by omega) (by omega)]; omega), a1, cI_, if_pos rfl, up_eq, cL_, a4, u32_64 (by omega), if_pos (by rw [lg_eq0])]
    by_cases e : ws.length ≤ f
    · rw [if_pos (by rw [u32_le (by omega) (by omega)]; exact e)]
      exact fin w1 s1 r1
    · rw [if_neg (by rw [u32_le (by omega) (by omega)]; exact e), u32_add]
      obtain ⟨w2, b1, b2, b3, b4, -⟩ := row_ok (r := 2) (n := f + 1) s1 (by decide) (by omega)
      have r2 : RowW w2 0 ws := r1.fr (b4 _ (by decide) (by decide)) (b4 _ (by decide) (by decide))
      obtain ⟨w3, c1, c2, c3, c4⟩ := la_laid (n := f + 1) (m := f + 1) (w := w2) (by omega) (by omega) (Nat.le_refl _) b3
      have s3 : SI wb w3 B ds := ⟨b2.1.fr (fun a h1 h2 => c3 a (by omega) (by omega)), b2.2.1.b (r := 2) (by decide) (fun a ha h1 h2 => c3 a h2 (by omega)) (Or.inr ⟨f + 1, by omega, by rw [c3 _ (by decide) (by decide)]; exact b3⟩), h0⟩
      have r3 : RowW w3 0 ws := r2.fr (c3 _ (by decide) (by decide)) (c3 _ (by decide) (by decide))
      have hlt1 : (ws.take (f + 1)).length = f + 1 := by rw [List.length_take]; omega
      have p3 : RowW w3 2 (ws.take (f + 1)) := ⟨by rw [hlt1, c3 _ (by decide) (by decide)]; exact b3, fun j y hj => by
        obtain ⟨e1, e2⟩ := take_at hj
        refine ⟨?_, (hr.2 j y e2).2⟩
        rw [show w3.1 (2 + 2 * 2 + 1) j = _ from c2 j e1, b4 _ (by decide) (by decide), a3 64 (by omega)]
        exact hw j y e2⟩
      obtain ⟨w4, d1, d2, d3, d4, -⟩ := ch_ways s3.1 h0 (show 2 < 6 by decide) p3 (by omega)
      have hz : (wys 0 (glOf (ws.take (f + 1))) (playV B ds).1).length = 0 := by
        exact f2 (by omega)
      rw [b1, cI_, if_pos rfl, c1, cI_, if_neg (by decide), d1, cI_, if_pos rfl, up_eq, cL_, d4, if_pos (by rw [c64_eq (by omega) (by omega)]; exact hz)]
      exact fin w4 (s3.a d2 d3) (r3.a (by decide) d3)
  | succ m ih =>
    intro k F w hk hF h hr hw h6 h7
    obtain ⟨F, rfl⟩ : ∃ G, F = G + 1 := ⟨F - 1, by omega⟩
    obtain ⟨w1, a1, a2, a3, a4, a5, a6, -⟩ := lay_ok (r := 2) (n := f) (i := k) (w.1 64 k) h (by decide) (by omega) h6 (by omega)
    rw [ff_la_law_1079_f]
    unfold ff_la_law_1079_b
    simp only [u32_lit]
    rw [if_neg (by rw [u32_le (by omega) (by omega)]; omega), sm_rd_u (by omega) (by omega), bs_, a1, cI_, if_pos rfl, u32_add]
    refine ih (k + 1) F w1 (by omega) (by omega) a2 (hr.fr (a6 _ (by decide) (by decide)) (a6 _ (by decide) (by decide))) (hw.fr (a6 64 (by decide) (by decide))) (by rw [show w1.1 6 = _ from a3]; exact h6) (fun j y e1 e2 => ?_)
    by_cases e : j = k
    · rw [e] at e2 ⊢
      rw [show w1.1 7 k = _ from a4]
      exact hw k y e2
    · rw [show w1.1 7 j = _ from a5 j e]
      exact h7 j y (by omega) e2
theorem L1062 {E : Nat × (Nat → Int32)} {S : Int32 → Int32 → Int64 → Int32 → sm_Mem → sm_R} {wb : sm_Mem} {B : HBase} {ds : List Deed} {T : Nat} {a7 : Int64} {x : Int32} {w : sm_Mem} {ws : List Nat} (hS : TC S wb B ds T a7) (h : SI wb w B ds) (hr : RowW w 0 ws) (hl : ws.length ≤ 4) (hw : WA w ws) : OkR (ff_la_law_1062 E S (u32 B.1) (u32 (2 ^ B.1 - 1)) a7 (u32 T) x (u32 ds.length) (u32 (hH (playV B ds).1)) (u32 (hO (playV B ds).1).length) (bre B ds) (u32 (nxt (playV B ds).1)) (oAns (lastW (hO (playV B ds).1))) (u32 ws.length) (u64 (wys 0 (glOf ws) (playV B ds).1).length) (u32 (farL 0 (glOf ws) (playV B ds).1 0 ws.length)) (u32 (wys 0 (glOf (ws.take (farL 0 (glOf ws) (playV B ds).1 0 ws.length))) (playV B ds).1).length) w) := by
  have hf4 := far_le4 (B := B) (ds := ds) hl
  obtain ⟨w1, a1, a2, a3, a4, -⟩ := row_ok (r := 2) (n := farL 0 (glOf ws) (playV B ds).1 0 ws.length) h (by decide) (by omega)
  unfold ff_la_law_1062 ff_la_law_1079
  simp only [u32_lit]
  rw [a1, cI_, if_pos rfl, sm_N_eq]
  exact L1079 hS hl (farL 0 (glOf ws) (playV B ds).1 0 ws.length) 0 1000000 w1 (by omega) (by omega) a2 (hr.fr (a4 _ (by decide) (by decide)) (a4 _ (by decide) (by decide))) (hw.fr (a4 64 (by decide) (by decide))) a3 (fun j y e => absurd e (Nat.not_lt_zero _))
