/-! pure: what the search of ways holds, by the class -/
def allC : Option Nat → Int32
  | none => -u32 1
  | some a => u32 a
def AccC (w : sm_Mem) (V : List (List Nat)) : Prop := (∀ d, d < 6 → w.1 53 d = u32 (cntV V d)) ∧ ∀ s, s < 64 → w.1 54 s = oAns (reachV V s)
def AccR (w : sm_Mem) (L : Nat) (gu : Option Nat) (gs : List Gl) (V : List (List Nat)) : Prop := w.1 49 8 = oAns ((bestV L V).map (fun b => b.1)) ∧ (∀ b, bestV L V = some b → b.1 ≤ 6 ∧ b.2.length = L ∧ ∀ j x, b.2[j]? = some x → w.1 55 j = u32 x) ∧ w.1 49 9 = oAns (openV L V) ∧ w.1 49 10 = allC (allV L V) ∧ (∀ a, allV L V = some a → a < 64) ∧ w.1 49 11 = u32 (anyV L V) ∧ anyV L V < 64 ∧ (∀ g, gu = some g → w.1 49 13 = oAns (guV L g gs V) ∧ ∀ s, guV L g gs V = some s → s < 64) ∧ (openV L V = none → cntV V L = 0 ∨ L = 0) ∧ (¬ openV L V = none → 0 < cntV V L)
def PW (w : sm_Mem) (p : List Nat) : Prop := ∀ j x, p[j]? = some x → w.1 52 j = u32 x
def GW (w : sm_Mem) (L : Nat) (gu : Option Nat) (gs : List Gl) : Prop := gs.length = L ∧ L ≤ 5 ∧ w.1 49 3 = u32 L ∧ w.1 49 12 = oAns gu ∧ (∀ g, gu = some g → g < 6) ∧ ∀ j g, gs[j]? = some g → w.1 50 j = u32 g.1 ∧ w.1 51 j = oAns g.2 ∧ g.1 < 6 ∧ ∀ q, g.2 = some q → q < 6
theorem popV_le (v : Nat) : popV v ≤ 6 := by
  have h : ∀ b : Bool, b.toNat ≤ 1 := fun b => by cases b <;> decide
  have h0 := h (v.testBit 0)
  have h1 := h (v.testBit 1)
  have h2 := h (v.testBit 2)
  have h3 := h (v.testBit 3)
  have h4 := h (v.testBit 4)
  have h5 := h (v.testBit 5)
  unfold popV
  omega
/-- only what a finish writes -/
def FFr (w w1 : sm_Mem) : Prop := (∀ a, a ≠ 49 → a ≠ 55 → w1.1 a = w.1 a) ∧ (∀ j, (j < 8 ∨ j = 12) → w1.1 49 j = w.1 49 j) ∧ w1.2 = w.2
theorem FFr.refl {w : sm_Mem} : FFr w w := ⟨fun _ _ _ => rfl, fun _ _ => rfl, rfl⟩
theorem FFr.trans {w w1 w2 : sm_Mem} (h1 : FFr w w1) (h2 : FFr w1 w2) : FFr w w2 := ⟨fun a b c => (h2.1 a b c).trans (h1.1 a b c), fun j hj => (h2.2.1 j hj).trans (h1.2.1 j hj), h2.2.2.trans h1.2.2⟩
theorem FFr.at {w : sm_Mem} {j : Nat} {x : Int32} (hj : 8 ≤ j) (h12 : j ≠ 12) : FFr w (sm_wI w 49 j x) := ⟨fun a h3 h4 => sm_wI_ne h3, fun i hi => sm_wI_nj (by omega), rfl⟩
theorem FFr.b {w : sm_Mem} {j : Nat} {x : Int32} : FFr w (sm_wI w 55 j x) := ⟨fun a h3 h4 => sm_wI_ne h4, fun i hi => by rw [sm_wI_ne (by decide)], rfl⟩
theorem GW.fr {w w1 : sm_Mem} {L : Nat} {gu : Option Nat} {gs : List Gl} (h : GW w L gu gs) (h3 : w1.1 49 3 = w.1 49 3) (h12 : w1.1 49 12 = w.1 49 12) (h50 : w1.1 50 = w.1 50) (h51 : w1.1 51 = w.1 51) : GW w1 L gu gs := by
  unfold GW at h ⊢
  rw [h3, h12, h50, h51]
  exact h
theorem PW.fr {w w1 : sm_Mem} {p : List Nat} (h : PW w p) (h52 : w1.1 52 = w.1 52) : PW w1 p := fun j x hx => by rw [h52]; exact h j x hx
/-! a guest's words -/
theorem sayG_lt {gu : Nat} : ∀ (p : List Nat) (gs : List Gl) (s : Nat), s < 64 → (∀ g, g ∈ gs → g.1 < 6) → sayG gu p gs s < 64
  | [], _, s, h, _ => by unfold sayG; exact h
  | i :: p, [], s, h, _ => by unfold sayG; exact h
  | i :: p, g :: gs, s, h, hg => by
    rw [sayG]
    refine sayG_lt p gs _ ?_ (fun g hg2 => hg g (List.mem_cons_of_mem _ hg2))
    split
    · have hi := hg g List.mem_cons_self
      have : 2 ^ g.1 < 2 ^ 6 := Nat.pow_lt_pow_right (by decide) hi
      exact Nat.or_lt_two_pow (n := 6) h this
    · exact h
theorem wy_isLess {a b : Nat} {w : sm_Mem} (ha : a < 64) (hb : b < 64) : ff_wy_isLess (u32 a) (u32 b) w = some (.int (u32 (lessV a b).toNat), w) := by
  have h1 := popV_le a
  have h2 := popV_le b
  unfold ff_wy_isLess lessV
  simp (disch := omega) only [u32_lit, ig_bitCount ha, ig_bitCount hb, sm_cI_some, u32_lt, u32_eq, u32_le]
  by_cases c1 : popV a < popV b
  · rw [if_pos c1, decide_eq_true (Or.inl c1)]
    rfl
  · rw [if_neg c1]
    by_cases c2 : popV a = popV b
    · rw [if_pos c2]
      by_cases c3 : b ≤ a
      · rw [if_pos c3, decide_eq_false (by omega)]
        rfl
      · rw [if_neg c3, decide_eq_true (by omega)]
        rfl
    · rw [if_neg c2, decide_eq_false (by omega)]
      rfl
theorem wy_weigh_loop {w : sm_Mem} {L gu : Nat} {gs : List Gl} {p : List Nat} (h : GW w L (some gu) gs) (hp : PW w p) (hL : p.length = L) (hp6 : ∀ i, i ∈ p → i < 6) : ∀ (m k F s : Nat), k + m = L → m < F → s < 64 → ff_wy_weighGuest_4_f F (u32 s) (u32 k) w = (if (w.1 49 13) = -u32 9 then ff_wy_weighGuest_62 (u32 (sayG gu (p.drop k) (gs.drop k) s)) w else (sm_cI (ff_wy_isLess (u32 (sayG gu (p.drop k) (gs.drop k) s)) (w.1 49 13) w) fun x2 w3 => (if x2 = u32 0 then (some (.null, w3)) else ff_wy_weighGuest_62 (u32 (sayG gu (p.drop k) (gs.drop k) s)) w3))) := by
  obtain ⟨g1, g2, g3, g4, g5, g6⟩ := h
  have hgu := g5 gu rfl
  have g4 : w.1 49 12 = u32 gu := g4
  intro m
  induction m with
  | zero =>
    intro k F s hk hF hs
    obtain ⟨F, rfl⟩ : ∃ G, F = G + 1 := ⟨F - 1, by omega⟩
    rw [ff_wy_weighGuest_4_f, List.drop_eq_nil_of_le (by omega)]
    unfold ff_wy_weighGuest_4_b
    simp (disch := omega) only [u32_lit, g3, u32_le, if_pos, sayG]
  | succ m ih =>
    intro k F s hk hF hs
    obtain ⟨F, rfl⟩ : ∃ G, F = G + 1 := ⟨F - 1, by omega⟩
    have hkp : k < p.length := by omega
    have hkg : k < gs.length := by omega
    have e1 : p[k]? = some p[k] := List.getElem?_eq_getElem hkp
    have e2 : gs[k]? = some gs[k] := List.getElem?_eq_getElem hkg
    have c1 := hp k _ e1
    obtain ⟨c2, -, c3, -⟩ := g6 k _ e2
    have c4 := hp6 p[k] (List.getElem_mem hkp)
    rw [List.drop_eq_getElem_cons hkp, List.drop_eq_getElem_cons hkg, sayG]
    rw [ff_wy_weighGuest_4_f]
    unfold ff_wy_weighGuest_4_b
    simp (disch := omega) only [u32_lit, g3, u32_le, if_neg, sm_rd_u, sm_bind_some, c1, c2, g4, u32_eq, u32_or_bit hs c3, u32_add]
    by_cases hg : p[k] = gu
    · rw [if_pos hg, if_pos hg]
      refine ih (k + 1) F _ (by omega) (by omega) ?_
      have : 2 ^ gs[k].1 < 2 ^ 6 := Nat.pow_lt_pow_right (by decide) c3
      exact Nat.or_lt_two_pow (n := 6) hs this
    · rw [if_neg hg, if_neg hg]
      exact ih (k + 1) F _ (by omega) (by omega) hs
/-- the guest's part of a finish: o as it was, what it is then -/
theorem wy_105 {w : sm_Mem} {L : Nat} {gu : Option Nat} {gs : List Gl} {p : List Nat} {o : Nat → Option Nat} (h : GW w L gu gs) (hp : PW w p) (hL : p.length = L) (hp6 : ∀ i, i ∈ p → i < 6) (ho : ∀ g, gu = some g → w.1 49 13 = oAns (o g) ∧ ∀ s, o g = some s → s < 64) : ∃ w1, ff_wy_finish_105 w = some (.null, w1) ∧ (∀ g, gu = some g → w1.1 49 13 = oAns (guS L g gs (o g) p) ∧ ∀ s, guS L g gs (o g) p = some s → s < 64) ∧ (∀ a, a ≠ 49 → w1.1 a = w.1 a) ∧ (∀ j, j ≠ 13 → w1.1 49 j = w.1 49 j) ∧ w1.2 = w.2 := by
  unfold ff_wy_finish_105
  rw [h.2.2.2.1]
  cases gu with
  | none =>
    refine ⟨w, ?_, fun g hg => (by cases hg), fun _ _ => rfl, fun _ _ => rfl, rfl⟩
    exact if_pos rfl
  | some g =>
    have hg6 := h.2.2.2.2.1 g rfl
    obtain ⟨o1, o2⟩ := ho g rfl
    have hgs : ∀ x, x ∈ gs → x.1 < 6 := fun x hx => by
      obtain ⟨j, hj⟩ := List.getElem?_of_mem hx
      exact (h.2.2.2.2.2 j x hj).2.2.1
    have hs := sayG_lt (gu := g) p gs 0 (by decide) hgs
    have hw := wy_weigh_loop h hp hL hp6 L 0 1000000 0 (by omega) (by have := h.2.1; omega) (by decide)
    rw [List.drop_zero, List.drop_zero] at hw
    have e : (oAns (some g) = -u32 9) = False := u32_eq_neg (by omega) (by decide) (by decide)
    simp only [u32_lit, e, if_false]
    have hwg : ff_wy_weighGuest w = ff_wy_weighGuest_4_f 1000000 (u32 0) (u32 0) w := by
      unfold ff_wy_weighGuest ff_wy_weighGuest_4
      rw [sm_N_eq, u32_lit]
    rw [hwg, hw, o1]
    cases hog : o g with
    | none =>
      have hstep : guS L g gs none p = some (sayG g p gs 0) := by
        unfold guS
        rw [if_pos hL]
      refine ⟨sm_wI w 49 13 (u32 (sayG g p gs 0)), ?_, fun g' hg' => ?_, fun a ha => sm_wI_ne ha, fun j hj => sm_wI_nj hj, rfl⟩
      · rw [if_pos (show oAns none = -u32 9 from rfl)]
        rfl
      · cases hg'
        rw [hog, hstep]
        exact ⟨sm_wI_eq, fun s hs2 => by cases hs2; exact hs⟩
    | some b =>
      have hb := o2 b hog
      have e2 : ¬ oAns (some b) = -u32 9 := by
        show ¬ u32 b = -u32 9
        rw [u32_eq_neg (by omega) (by decide) (by decide)]
        exact id
      rw [if_neg e2, show oAns (some b) = u32 b from rfl, wy_isLess hs hb]
      simp only [sm_cI_some, u32_bool_eq0]
      cases hl : lessV (sayG g p gs 0) b with
      | true =>
        have hstep : guS L g gs (some b) p = some (sayG g p gs 0) := by
          unfold guS
          rw [if_pos hL]
          dsimp only
          rw [if_pos hl]
        refine ⟨sm_wI w 49 13 (u32 (sayG g p gs 0)), ?_, fun g' hg' => ?_, fun a ha => sm_wI_ne ha, fun j hj => sm_wI_nj hj, rfl⟩
        · rw [if_neg (by decide)]
          rfl
        · cases hg'
          rw [hog, hstep]
          exact ⟨sm_wI_eq, fun s hs2 => by cases hs2; exact hs⟩
      | false =>
        have hstep : guS L g gs (some b) p = some b := by
          unfold guS
          rw [if_pos hL]
          dsimp only
          rw [if_neg (by rw [hl]; decide)]
        refine ⟨w, ?_, fun g' hg' => ?_, fun _ _ => rfl, fun _ _ => rfl, rfl⟩
        · rw [if_pos rfl]
          rfl
        · cases hg'
          rw [hog, hstep]
          exact ⟨by rw [o1, hog], fun s hs2 => by cases hs2; exact hb⟩
/-- the way is kept as the best -/
theorem wy_79 {w : sm_Mem} {L : Nat} {gu : Option Nat} {gs : List Gl} {p : List Nat} (h : GW w L gu gs) (hp : PW w p) (hL : p.length = L) : ∀ (m k F : Nat) (w0 : sm_Mem), k + m = L → m < F → w0.1 49 = w.1 49 → w0.1 52 = w.1 52 → ∃ w1, ff_wy_finish_79_f F (u32 k) w0 = ff_wy_finish_105 w1 ∧ (∀ j x, p[j]? = some x → k ≤ j → w1.1 55 j = u32 x) ∧ (∀ j, j < k → w1.1 55 j = w0.1 55 j) ∧ (∀ a, a ≠ 55 → w1.1 a = w0.1 a) ∧ w1.2 = w0.2 := by
  have h5 := h.2.1
  intro m
  induction m with
  | zero =>
    intro k F w0 hk hF h49 h52
    obtain ⟨F, rfl⟩ : ∃ G, F = G + 1 := ⟨F - 1, by omega⟩
    refine ⟨w0, ?_, fun j x hx hj => ?_, fun _ _ => rfl, fun _ _ => rfl, rfl⟩
    · rw [ff_wy_finish_79_f]
      unfold ff_wy_finish_79_b
      rw [h49, h.2.2.1]
      simp (disch := omega) only [u32_le, if_pos]
    · have := (List.getElem?_eq_some_iff.mp hx).1
      omega
  | succ m ih =>
    intro k F w0 hk hF h49 h52
    obtain ⟨F, rfl⟩ : ∃ G, F = G + 1 := ⟨F - 1, by omega⟩
    have hkp : k < p.length := by omega
    have e1 : p[k]? = some p[k] := List.getElem?_eq_getElem hkp
    have c1 := hp k _ e1
    obtain ⟨w1, a1, a2, a3, a4, a5⟩ := ih (k + 1) F (sm_wI w0 55 k (u32 p[k])) (by omega) (by omega) (by rw [sm_wI_ne (by decide)]; exact h49) (by rw [sm_wI_ne (by decide)]; exact h52)
    refine ⟨w1, ?_, fun j x hx hj => ?_, fun j hj => ?_, fun a ha => by rw [a4 a ha, sm_wI_ne ha], a5⟩
    · rw [ff_wy_finish_79_f]
      unfold ff_wy_finish_79_b
      rw [h49, h.2.2.1]
      simp (disch := omega) only [u32_lit, u32_le, if_neg, sm_rd_u, sm_wr_u, sm_bind_some, h52, c1, u32_add]
      exact a1
    · by_cases e : j = k
      · subst e
        rw [a3 j (by omega), sm_wI_eq]
        rw [e1] at hx
        cases hx
        rfl
      · exact a2 j x hx (by omega)
    · rw [a3 j (by omega), sm_wI_nj (by omega)]
theorem u32_or {a b : Nat} (ha : a < 64) (hb : b < 64) : u32 a ||| u32 b = u32 (a ||| b) ∧ a ||| b < 64 := by
  have key : ∀ a, a < 64 → ∀ b, b < 64 → u32 a ||| u32 b = u32 (a ||| b) ∧ a ||| b < 64 := by decide +kernel
  exact key a ha b hb
theorem neg1_and {b : Nat} (hb : b < 64) : -u32 1 &&& u32 b = u32 b := by
  have key : ∀ b, b < 64 → -u32 1 &&& u32 b = u32 b := by decide +kernel
  exact key b hb
theorem fold_snoc {α β : Type} (f : β → α → β) (b : β) (V : List α) (p : α) : (V ++ [p]).foldl f b = f (V.foldl f b) p := by
  rw [List.foldl_append]
  rfl
/-- a whole way -/
theorem wy_finish {w : sm_Mem} {L : Nat} {gu : Option Nat} {gs : List Gl} {p : List Nat} {V : List (List Nat)} (h : GW w L gu gs) (hp : PW w p) (hL : p.length = L) (hp6 : ∀ i, i ∈ p → i < 6) (hR : AccR w L gu gs V) (hc : w.1 53 L = u32 (cntV V L + 1)) (hcb : cntV V L + 1 < 2147483648) : ∃ w1, ff_wy_finish (u32 (usedN p)) w = some (.null, w1) ∧ AccR w1 L gu gs (V ++ [p]) ∧ FFr w w1 := by
  have h5 := h.2.1
  have hu := usedN_64 hp6
  obtain ⟨r1, r2, r3, r4, r5, r6, r7, r8, r9, r10⟩ := hR
  have b1 : bestV L (V ++ [p]) = bestS L (bestV L V) p := fold_snoc _ _ _ _
  have b2 : openV L (V ++ [p]) = openS L (openV L V) p := fold_snoc _ _ _ _
  have b3 : allV L (V ++ [p]) = allS L (allV L V) p := fold_snoc _ _ _ _
  have b4 : anyV L (V ++ [p]) = anyS L (anyV L V) p := fold_snoc _ _ _ _
  have b5 : ∀ g, guV L g gs (V ++ [p]) = guS L g gs (guV L g gs V) p := fun g => fold_snoc _ _ _ _
  have b6 : cntV (V ++ [p]) L = cntV V L + 1 := by rw [cntV_snoc, if_pos hL]
  -- who opens
  have hopen : ∃ w1, ff_wy_finish (u32 (usedN p)) w = ff_wy_finish_30 (u32 (usedN p)) w1 ∧ w1.1 49 9 = oAns (openV L (V ++ [p])) ∧ (∀ a, a ≠ 49 → w1.1 a = w.1 a) ∧ (∀ j, j ≠ 9 → w1.1 49 j = w.1 49 j) ∧ w1.2 = w.2 := by
    unfold ff_wy_finish
    rw [h.2.2.1]
    simp (disch := omega) only [u32_lit, sm_rd_u, sm_bind_some, hc, u32_eq, u32_le]
    rw [b2]
    unfold openS
    rw [if_pos hL]
    by_cases c1 : cntV V L + 1 = 1
    · rw [if_pos c1]
      have ho : openV L V = none := by
        cases e : openV L V with
        | none => rfl
        | some x =>
          have := r10 (by rw [e]; simp)
          omega
      by_cases c2 : L ≤ 0
      · rw [if_pos c2]
        refine ⟨w, rfl, ?_, fun _ _ => rfl, fun _ _ => rfl, rfl⟩
        rw [r3, ho]
        have : p = [] := List.eq_nil_of_length_eq_zero (by omega)
        rw [this]
        rfl
      · rw [if_neg c2]
        have hkp : 0 < p.length := by omega
        have e1 : p[0]? = some p[0] := List.getElem?_eq_getElem hkp
        refine ⟨sm_wI w 49 9 (u32 p[0]), ?_, ?_, fun a ha => sm_wI_ne ha, fun j hj => sm_wI_nj hj, rfl⟩
        · rw [hp 0 _ e1]
          rfl
        · rw [ho, sm_wI_eq]
          dsimp only
          rw [List.head?_eq_getElem?, e1]
          rfl
    · rw [if_neg c1]
      refine ⟨w, rfl, ?_, fun _ _ => rfl, fun _ _ => rfl, rfl⟩
      rw [r3]
      cases e : openV L V with
      | none =>
        rcases r9 e with q | q
        · omega
        · have : p = [] := List.eq_nil_of_length_eq_zero (by omega)
          rw [this]
          rfl
      | some x => rfl
  obtain ⟨w1, a1, a2, a3, a4, a5⟩ := hopen
  -- in all, in any
  have hall : ∃ x, x = w1.1 49 10 &&& u32 (usedN p) ∧ x = allC (allV L (V ++ [p])) ∧ ∀ a, allV L (V ++ [p]) = some a → a < 64 := by
    refine ⟨_, rfl, ?_, ?_⟩
    · rw [a4 10 (by decide), r4, b3]
      unfold allS
      rw [if_pos hL]
      cases e : allV L V with
      | none => exact neg1_and hu
      | some a => exact (u32_and (r5 a e) hu).1
    · intro a ha
      rw [b3] at ha
      unfold allS at ha
      rw [if_pos hL] at ha
      cases e : allV L V with
      | none => rw [e] at ha; cases ha; exact hu
      | some b => rw [e] at ha; cases ha; exact (u32_and (r5 b e) hu).2
  obtain ⟨xa, x1, x2, x3⟩ := hall
  have hany : w1.1 49 11 ||| u32 (usedN p) = u32 (anyV L (V ++ [p])) ∧ anyV L (V ++ [p]) < 64 := by
    rw [a4 11 (by decide), r6, b4]
    unfold anyS
    rw [if_pos hL]
    exact u32_or r7 hu
  have pre : ff_wy_finish_30 (u32 (usedN p)) w1 = (if (w1.1 49 8) = -u32 9 then ff_wy_finish_72 (u32 (popV (usedN p))) (sm_wI (sm_wI w1 49 10 xa) 49 11 (u32 (anyV L (V ++ [p])))) else (if (w1.1 49 8) ≤ u32 (popV (usedN p)) then ff_wy_finish_105 (sm_wI (sm_wI w1 49 10 xa) 49 11 (u32 (anyV L (V ++ [p])))) else ff_wy_finish_72 (u32 (popV (usedN p))) (sm_wI (sm_wI w1 49 10 xa) 49 11 (u32 (anyV L (V ++ [p])))))) := by
    unfold ff_wy_finish_30
    rw [← x1]
    simp (disch := omega) only [u32_lit, sm_let_eq, sm_wI_ne, sm_wI_nj, sm_wI_eq, sm_wA_ne, sm_wA_eq, hany.1, ig_bitCount hu, sm_cI_some]
  have h2 : ∀ j, j ≠ 9 → j ≠ 10 → j ≠ 11 → (sm_wI (sm_wI w1 49 10 xa) 49 11 (u32 (anyV L (V ++ [p])))).1 49 j = w.1 49 j := fun j n1 n2 n3 => by rw [sm_wI_nj n3, sm_wI_nj n2, a4 j n1]
  have h9 : (sm_wI (sm_wI w1 49 10 xa) 49 11 (u32 (anyV L (V ++ [p])))).1 49 9 = oAns (openV L (V ++ [p])) := by rw [sm_wI_nj (by decide), sm_wI_nj (by decide), a2]
  have h10 : (sm_wI (sm_wI w1 49 10 xa) 49 11 (u32 (anyV L (V ++ [p])))).1 49 10 = allC (allV L (V ++ [p])) := by rw [sm_wI_nj (by decide), sm_wI_eq, x2]
  have h11 : (sm_wI (sm_wI w1 49 10 xa) 49 11 (u32 (anyV L (V ++ [p])))).1 49 11 = u32 (anyV L (V ++ [p])) := sm_wI_eq
  have hne : ∀ a, a ≠ 49 → (sm_wI (sm_wI w1 49 10 xa) 49 11 (u32 (anyV L (V ++ [p])))).1 a = w.1 a := fun a ha => by rw [sm_wI_ne ha, sm_wI_ne ha, a3 a ha]
  have hl2 : (sm_wI (sm_wI w1 49 10 xa) 49 11 (u32 (anyV L (V ++ [p])))).2 = w.2 := a5
  generalize sm_wI (sm_wI w1 49 10 xa) 49 11 (u32 (anyV L (V ++ [p]))) = w2 at pre h2 h9 h10 h11 hne hl2
  -- the end: the guest's part, from any memory that holds the rest
  have fin : ∀ w3, (∀ a, a ≠ 49 → a ≠ 55 → w3.1 a = w2.1 a) → (∀ j, j ≠ 8 → w3.1 49 j = w2.1 49 j) → w3.2 = w2.2 → w3.1 49 8 = oAns ((bestV L (V ++ [p])).map (fun b => b.1)) → (∀ b, bestV L (V ++ [p]) = some b → b.1 ≤ 6 ∧ b.2.length = L ∧ ∀ j x, b.2[j]? = some x → w3.1 55 j = u32 x) → ∃ w4, ff_wy_finish_105 w3 = some (.null, w4) ∧ AccR w4 L gu gs (V ++ [p]) ∧ FFr w w4 := by
    intro w3 f1 f2 f3 f4 f5
    obtain ⟨w4, d1, d2, d3, d4, d5⟩ := wy_105 (w := w3) (o := fun g => guV L g gs V) (h.fr (by rw [f2 3 (by decide), h2 3 (by decide) (by decide) (by decide)]) (by rw [f2 12 (by decide), h2 12 (by decide) (by decide) (by decide)]) (by rw [f1 50 (by decide) (by decide), hne 50 (by decide)]) (by rw [f1 51 (by decide) (by decide), hne 51 (by decide)])) (hp.fr (by rw [f1 52 (by decide) (by decide), hne 52 (by decide)])) hL hp6 (fun g hg => by rw [f2 13 (by decide), h2 13 (by decide) (by decide) (by decide)]; exact r8 g hg)
    refine ⟨w4, d1, ⟨by rw [d4 8 (by decide)]; exact f4, fun b hb => ?_, by rw [d4 9 (by decide), f2 9 (by decide)]; exact h9, by rw [d4 10 (by decide), f2 10 (by decide)]; exact h10, x3, by rw [d4 11 (by decide), f2 11 (by decide)]; exact h11, hany.2, fun g hg => by rw [b5 g]; exact d2 g hg, fun ho => ?_, fun _ => by rw [b6]; omega⟩, fun a n1 n2 => by rw [d3 a n1, f1 a n1 n2, hne a n1], fun j hj => by rw [d4 j (by omega), f2 j (by omega), h2 j (by omega) (by omega) (by omega)], by rw [d5, f3, hl2]⟩
    · obtain ⟨q1, q2, q3⟩ := f5 b hb
      exact ⟨q1, q2, fun j x hx => by rw [d3 55 (by decide)]; exact q3 j x hx⟩
    · rw [b2] at ho
      unfold openS at ho
      rw [if_pos hL] at ho
      refine Or.inr ?_
      cases e : openV L V with
      | some x => rw [e] at ho; cases ho
      | none =>
        rw [e] at ho
        dsimp only at ho
        cases p with
        | nil => exact hL.symm
        | cons i q => cases ho
  have hpop := popV_le (usedN p)
  -- the way anew as the best
  have best : bestV L (V ++ [p]) = some (popV (usedN p), p) → ∃ w4, ff_wy_finish_72 (u32 (popV (usedN p))) w2 = some (.null, w4) ∧ AccR w4 L gu gs (V ++ [p]) ∧ FFr w w4 := by
    intro hb
    have hG : GW (sm_wI w2 49 8 (u32 (popV (usedN p)))) L gu gs := h.fr (by rw [sm_wI_nj (by decide), h2 3 (by decide) (by decide) (by decide)]) (by rw [sm_wI_nj (by decide), h2 12 (by decide) (by decide) (by decide)]) (by rw [sm_wI_ne (by decide), hne 50 (by decide)]) (by rw [sm_wI_ne (by decide), hne 51 (by decide)])
    have hP : PW (sm_wI w2 49 8 (u32 (popV (usedN p)))) p := hp.fr (by rw [sm_wI_ne (by decide), hne 52 (by decide)])
    obtain ⟨w3, d1, d2, d3, d4, d5⟩ := wy_79 hG hP hL L 0 1000000 _ (by omega) (by omega) rfl rfl
    obtain ⟨w4, e1, e2⟩ := fin w3 (fun a n1 n2 => by rw [d4 a n2, sm_wI_ne n1]) (fun j hj => by rw [d4 49 (by decide), sm_wI_nj hj]) (by rw [d5]; rfl) (by rw [d4 49 (by decide), sm_wI_eq, hb]; rfl) (fun b hb2 => by
      rw [hb] at hb2
      cases hb2
      exact ⟨hpop, hL, fun j x hx => d2 j x hx (Nat.zero_le _)⟩)
    refine ⟨w4, ?_, e2⟩
    unfold ff_wy_finish_72 ff_wy_finish_79
    rw [sm_let_eq, sm_N_eq, u32_lit, d1, e1]
  rw [a1, pre, a4 8 (by decide), r1]
  cases hbV : bestV L V with
  | none =>
    rw [if_pos (show oAns (Option.map _ none) = -u32 9 from rfl)]
    refine best ?_
    rw [b1, hbV]
    unfold bestS
    rw [if_pos hL]
  | some b =>
    have hb := r2 b hbV
    have e1 : oAns (Option.map (fun b => b.1) (some b)) = u32 b.1 := rfl
    rw [e1, if_neg (by rw [u32_eq_neg (by omega) (by decide) (by decide)]; exact id), ]
    simp (disch := omega) only [u32_le]
    by_cases hlt : popV (usedN p) < b.1
    · rw [if_neg (by omega)]
      refine best ?_
      rw [b1, hbV]
      unfold bestS
      rw [if_pos hL]
      dsimp only
      rw [if_pos hlt]
    · rw [if_pos (by omega)]
      have hsame : bestV L (V ++ [p]) = some b := by
        rw [b1, hbV]
        unfold bestS
        rw [if_pos hL]
        dsimp only
        rw [if_neg hlt]
      refine fin w2 (fun _ _ _ => rfl) (fun _ _ => rfl) rfl ?_ (fun b' hb' => ?_)
      · rw [h2 8 (by decide) (by decide) (by decide), r1, hbV, hsame]
      · rw [hsame] at hb'
        cases hb'
        exact ⟨hb.1, hb.2.1, fun j x hx => by rw [hne 55 (by decide)]; exact hb.2.2 j x hx⟩

