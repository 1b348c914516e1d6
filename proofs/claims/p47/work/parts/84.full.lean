/-! pure: what is left alike behind a search; ways -/
def XFr (w w1 : sm_Mem) : Prop := (∀ a, (a < 36 ∨ (36 < a ∧ a < 42) ∨ (44 < a ∧ a < 49) ∨ a = 61 ∨ 61 < a) → w1.1 a = w.1 a) ∧ (∀ j, j ≠ 11 → w1.1 36 j = w.1 36 j) ∧ w1.1 60 3 = w.1 60 3
theorem XFr.trans {w w1 w2 : sm_Mem} (h1 : XFr w w1) (h2 : XFr w1 w2) : XFr w w2 := ⟨fun a ha => (h2.1 a ha).trans (h1.1 a ha), fun j hj => (h2.2.1 j hj).trans (h1.2.1 j hj), h2.2.2.trans h1.2.2⟩
theorem XFr.refl {w : sm_Mem} : XFr w w := ⟨fun _ _ => rfl, fun _ _ => rfl, rfl⟩
theorem XFr.of {w w1 : sm_Mem} (h : RFr w w1) : XFr w w1 := ⟨fun a ha => h.1 a (by omega), h.2.1, by rw [h.1 60 (by omega)]⟩
theorem XFr.told {w : sm_Mem} {x : Int32} : XFr w (sm_wI w 60 0 x) := ⟨fun a ha => sm_wI_ne (by omega), fun j _ => by rw [sm_wI_ne (by decide)], by rw [sm_wI_nj (by decide)]⟩
theorem XFr.long {w : sm_Mem} {a j : Nat} {x : Int64} : XFr w (sm_wL w a j x) := ⟨fun _ _ => rfl, fun _ _ => rfl, rfl⟩
/-! folds over what is whole -/
theorem foldV {β : Type} {f : β → List Nat → β} {L : Nat} (hf : ∀ o p, ¬ p.length = L → f o p = o) : ∀ (V : List (List Nat)) (o : β), V.foldl f o = (V.filter (fun q => q.length == L)).foldl f o
  | [], o => rfl
  | p :: V, o => by
    by_cases h : p.length = L
    · rw [List.filter_cons_of_pos (by simpa using h), List.foldl_cons, List.foldl_cons, foldV hf V]
    · rw [List.filter_cons_of_neg (by simpa using h), List.foldl_cons, hf o p h, foldV hf V]
theorem tre_wys {sil : Nat} {gs : List Gl} {H : HV} : (tre sil gs H).filter (fun q => q.length == gs.length) = wys sil gs H := by
  rw [tre_full, if_pos (Nat.le_refl _), List.take_length]
theorem cntV_wys {sil : Nat} {gs : List Gl} {H : HV} : cntV (tre sil gs H) gs.length = (wys sil gs H).length := by
  unfold cntV
  rw [tre_wys]
theorem cntV_take {sil : Nat} {gs : List Gl} {H : HV} {d : Nat} (hd : d ≤ gs.length) : cntV (tre sil gs H) d = (wys sil (gs.take d) H).length := by
  unfold cntV
  rw [tre_full, if_pos hd]
theorem allV_wys {sil : Nat} {gs : List Gl} {H : HV} : allV gs.length (tre sil gs H) = (wys sil gs H).foldl (allS gs.length) none := by
  unfold allV
  rw [foldV (fun o p h => by unfold allS; rw [if_neg h]), tre_wys]
theorem anyV_wys {sil : Nat} {gs : List Gl} {H : HV} : anyV gs.length (tre sil gs H) = (wys sil gs H).foldl (anyS gs.length) 0 := by
  unfold anyV
  rw [foldV (fun o p h => by unfold anyS; rw [if_neg h]), tre_wys]
theorem openV_wys {sil : Nat} {gs : List Gl} {H : HV} : openV gs.length (tre sil gs H) = (wys sil gs H).foldl (openS gs.length) none := by
  unfold openV
  rw [foldV (fun o p h => by unfold openS; rw [if_neg h]), tre_wys]
theorem bestV_wys {sil : Nat} {gs : List Gl} {H : HV} : bestV gs.length (tre sil gs H) = (wys sil gs H).foldl (bestS gs.length) none := by
  unfold bestV
  rw [foldV (fun o p h => by unfold bestS; rw [if_neg h]), tre_wys]
theorem wys_64 {sil : Nat} {gs : List Gl} {H : HV} (h6 : hN H ≤ 6) {q : List Nat} (hq : q ∈ wys sil gs H) : q.length = gs.length ∧ usedN q < 64 := by
  obtain ⟨a1, a2⟩ := wys_each gs H q hq
  exact ⟨a1, usedN_64 (fun i hi => by have := a2 i hi; omega)⟩
theorem all_fold {L : Nat} : ∀ (l : List (List Nat)) (a : Nat), (∀ q, q ∈ l → q.length = L) → l.foldl (allS L) (some a) = some (l.foldl (fun a q => a &&& usedN q) a)
  | [], _, _ => rfl
  | q :: l, a, h => by
    rw [List.foldl_cons, List.foldl_cons, ← all_fold l _ (fun q hq => h q (List.mem_cons_of_mem _ hq))]
    unfold allS
    rw [if_pos (h q List.mem_cons_self)]
theorem and_63 {a : Nat} (h : a < 64) : 63 &&& a = a := by
  have key : ∀ a, a < 64 → 63 &&& a = a := by decide +kernel
  exact key a h
theorem all_none {L : Nat} {l : List (List Nat)} (h : ∀ q, q ∈ l → q.length = L ∧ usedN q < 64) : l.foldl (allS L) none = if l = [] then none else some (l.foldl (fun a q => a &&& usedN q) 63) := by
  cases l with
  | nil => rfl
  | cons q l =>
    rw [if_neg (by simp), List.foldl_cons, List.foldl_cons, and_63 (h q List.mem_cons_self).2, ← all_fold l _ (fun q hq => (h q (List.mem_cons_of_mem _ hq)).1)]
    refine congrArg (fun o => l.foldl (allS L) o) ?_
    unfold allS
    rw [if_pos (h q List.mem_cons_self).1]
theorem andF_lt {l : List (List Nat)} : ∀ (a : Nat), a < 64 → l.foldl (fun a q => a &&& usedN q) a < 64 := by
  induction l with
  | nil => intro a h; exact h
  | cons q l ih =>
    intro a h
    rw [List.foldl_cons]
    exact ih _ (Nat.lt_of_le_of_lt Nat.and_le_left h)
theorem u32_and6 {a b : Nat} (ha : a < 64) (hb : b < 64) : u32 a &&& u32 b = u32 (a &&& b) := by
  have key : ∀ a, a < 64 → ∀ b, b < 64 → u32 a &&& u32 b = u32 (a &&& b) := by decide +kernel
  exact key a ha b hb
/-! Euclid's way -/
theorem lg_eq0 {x y : Int64} : (lg_cmp x y = u32 0) = (x = y) := by
  unfold lg_cmp
  by_cases h1 : x > y
  · rw [if_pos h1]
    refine propext ⟨fun h => absurd h (by decide), fun h => ?_⟩
    subst h
    have : x < x := h1
    rw [Int64.lt_iff_toInt_lt] at this
    omega
  · rw [if_neg h1]
    by_cases h2 : x = y
    · rw [if_pos h2]
      exact propext ⟨fun _ => h2, fun _ => rfl⟩
    · rw [if_neg h2]
      exact propext ⟨fun h => absurd h (by decide), fun h => absurd h h2⟩
theorem share_loop {a b : Int64} {w : sm_Mem} : ∀ (m x y s F : Nat), y < 2 ^ m → x < 2147483648 → y < 2147483648 → s + 2 * m + 1 ≤ 100 → 2 * m + 1 ≤ F → ff_td_share_9_f F a b (u64 x) (u64 y) (u32 s) w = ff_td_share_44 a b (u64 (Nat.gcd x y)) w := by
  intro m
  induction m with
  | zero =>
    intro x y s F hy hx hy2 hs hF
    obtain ⟨F, rfl⟩ : ∃ G, F = G + 1 := ⟨F - 1, by omega⟩
    have h0 : y = 0 := by rw [Nat.pow_zero] at hy; omega
    subst h0
    rw [ff_td_share_9_f, Nat.gcd_zero_right]
    unfold ff_td_share_9_b
    simp (disch := omega) only [u32_lit, u64_lit, u32_le, if_neg, lg_eq0, if_true]
  | succ m ih =>
    intro x y s F hy hx hy2 hs hF
    obtain ⟨F, rfl⟩ : ∃ G, F = G + 1 + 1 := ⟨F - 2, by omega⟩
    by_cases h0 : y = 0
    · subst h0
      rw [ff_td_share_9_f, Nat.gcd_zero_right]
      unfold ff_td_share_9_b
      simp (disch := omega) only [u32_lit, u64_lit, u32_le, if_neg, lg_eq0, if_true]
    · have hm : x % y < y := Nat.mod_lt _ (by omega)
      have e1 : ff_td_share_9_f (F + 1 + 1) a b (u64 x) (u64 y) (u32 s) w = ff_td_share_9_f (F + 1) a b (u64 y) (u64 (x % y)) (u32 (s + 1)) w := by
        rw [ff_td_share_9_f]
        unfold ff_td_share_9_b
        simp (disch := omega) only [u32_lit, u64_lit, u32_le, if_neg, lg_eq0, u64_eq, u64_rem, u32_add]
      rw [e1]
      by_cases h1 : x % y = 0
      · rw [h1, ff_td_share_9_f]
        have eg : Nat.gcd x y = y := by rw [Nat.gcd_comm, Nat.gcd_rec, h1, Nat.gcd_zero_left]
        rw [eg]
        unfold ff_td_share_9_b
        simp (disch := omega) only [u32_lit, u64_lit, u32_le, if_neg, lg_eq0, if_true]
      · have hm2 : y % (x % y) < x % y := Nat.mod_lt _ (by omega)
        have hd : y = x % y * (y / (x % y)) + y % (x % y) := (Nat.div_add_mod y (x % y)).symm
        have hq : 1 ≤ y / (x % y) := (Nat.le_div_iff_mul_le (by omega)).mpr (by omega)
        have hq2 : x % y * 1 ≤ x % y * (y / (x % y)) := Nat.mul_le_mul_left _ hq
        have hlt : y % (x % y) < 2 ^ m := by rw [Nat.pow_succ] at hy; omega
        have e2 : ff_td_share_9_f (F + 1) a b (u64 y) (u64 (x % y)) (u32 (s + 1)) w = ff_td_share_9_f F a b (u64 (x % y)) (u64 (y % (x % y))) (u32 (s + 1 + 1)) w := by
          rw [ff_td_share_9_f]
          unfold ff_td_share_9_b
          simp (disch := omega) only [u32_lit, u64_lit, u32_le, if_neg, lg_eq0, u64_eq, u64_rem, u32_add]
        rw [e2, ih _ _ _ _ hlt (by omega) (by omega) (by omega) (by omega)]
        have g1 : Nat.gcd x y = Nat.gcd (x % y) y := by rw [Nat.gcd_comm x y, Nat.gcd_rec y x]
        have g2 : Nat.gcd (x % y) y = Nat.gcd (x % y) (y % (x % y)) := by rw [Nat.gcd_rec (x % y) y, Nat.gcd_comm]
        rw [g1, g2]
theorem td_share {a b : Nat} {w : sm_Mem} (ha : a < 2147483648) (hb : b < 2147483648) (h0 : 0 < b) : ff_td_share (u64 a) (u64 b) w = some (.null, sm_wL (sm_wL w 60 1 (u64 (a / Nat.gcd a b))) 60 2 (u64 (b / Nat.gcd a b))) := by
  have hg : 0 < Nat.gcd a b := Nat.gcd_pos_of_pos_right _ h0
  have hgb : Nat.gcd a b ≤ b := Nat.gcd_le_right _ h0
  have h := share_loop (a := u64 a) (b := u64 b) (w := w) 31 a b 0 1000000 (by omega) ha hb (by omega) (by omega)
  unfold ff_td_share ff_td_share_9
  rw [sm_N_eq, u32_lit, h]
  unfold ff_td_share_44
  simp (disch := omega) only [u32_lit, u64_lit, lg_eq0, u64_eq, if_neg, let_, u64_div]
theorem td_share1 {a : Nat} {w : sm_Mem} (ha : a < 2147483648) : ff_td_share (u64 a) (u64 1) w = some (.null, sm_wL (sm_wL w 60 1 (u64 a)) 60 2 (u64 1)) := by
  rw [td_share ha (by omega) (by omega), Nat.gcd_one_right, Nat.div_one]

