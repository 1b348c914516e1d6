/-! pure: facts on sets, ways, orders -/
theorem pop_mono {a b : Nat} (h : ∀ k, k < 6 → a.testBit k = true → b.testBit k = true) : popV a ≤ popV b := by
  have t : ∀ k, k < 6 → (a.testBit k).toNat ≤ (b.testBit k).toNat := fun k hk => by
    cases ha : a.testBit k with
    | false => exact Nat.zero_le _
    | true => rw [h k hk ha]; exact Nat.le_refl _
  have t0 := t 0 (by decide)
  have t1 := t 1 (by decide)
  have t2 := t 2 (by decide)
  have t3 := t 3 (by decide)
  have t4 := t 4 (by decide)
  have t5 := t 5 (by decide)
  unfold popV
  omega
theorem pop_or {s i : Nat} (hs : s < 64) (hi : i < 6) : popV (s ||| 2 ^ i) ≤ popV s + 1 ∧ s ||| 2 ^ i < 64 := by
  have key : ∀ s, s < 64 → ∀ i, i < 6 → popV (s ||| 2 ^ i) ≤ popV s + 1 ∧ s ||| 2 ^ i < 64 := by decide +kernel
  exact key s hs i hi
theorem pop_fold : ∀ (q : List Nat) (s : Nat), s < 64 → (∀ i, i ∈ q → i < 6) → popV (q.foldl (fun s i => s ||| 2 ^ i) s) ≤ popV s + q.length
  | [], s, _, _ => Nat.le_refl _
  | i :: q, s, hs, hq => by
    obtain ⟨h1, h2⟩ := pop_or hs (hq i List.mem_cons_self)
    have h3 := pop_fold q (s ||| 2 ^ i) h2 (fun j hj => hq j (List.mem_cons_of_mem _ hj))
    rw [List.foldl_cons, List.length_cons]
    omega
theorem pop_used {q : List Nat} (hq : ∀ i, i ∈ q → i < 6) : popV (usedN q) ≤ q.length := by
  have h := pop_fold q 0 (by decide) hq
  have e : popV 0 = 0 := by decide
  rw [e, Nat.zero_add] at h
  exact h
theorem fold_bit : ∀ (q : List Nat) (s k : Nat), (q.foldl (fun s i => s ||| 2 ^ i) s).testBit k = true ↔ (s.testBit k = true ∨ k ∈ q)
  | [], s, k => ⟨fun h => Or.inl h, fun h => h.elim id (fun h => by cases h)⟩
  | i :: q, s, k => by
    rw [List.foldl_cons, fold_bit q, Nat.testBit_or, Bool.or_eq_true, List.mem_cons, Nat.testBit_two_pow]
    constructor
    · rintro ((h | h) | h)
      · exact Or.inl h
      · exact Or.inr (Or.inl (of_decide_eq_true h).symm)
      · exact Or.inr (Or.inr h)
    · rintro (h | h | h)
      · exact Or.inl (Or.inl h)
      · exact Or.inl (Or.inr (decide_eq_true h.symm))
      · exact Or.inr h
theorem used_bit {q : List Nat} {k : Nat} : (usedN q).testBit k = true ↔ k ∈ q := by
  unfold usedN
  rw [fold_bit]
  exact ⟨fun h => h.elim (fun h => by rw [Nat.zero_testBit] at h; cases h) id, Or.inr⟩
theorem lt_of_bits {x n : Nat} (h : ∀ k, x.testBit k = true → k < n) : x < 2 ^ n := by
  refine Nat.lt_pow_two_of_testBit x (fun k hk => ?_)
  cases hb : x.testBit k with
  | false => rfl
  | true => exact absurd (h k hb) (by omega)
theorem bit_lt {x n k : Nat} (hx : x < 2 ^ n) (hb : x.testBit k = true) : k < n := by
  rcases Nat.lt_or_ge k n with h | h
  · exact h
  · rw [Nat.testBit_lt_two_pow (Nat.lt_of_lt_of_le hx (Nat.pow_le_pow_right (by decide) h))] at hb
    cases hb
theorem used_lt {q : List Nat} {n : Nat} (hq : ∀ i, i ∈ q → i < n) : usedN q < 2 ^ n := lt_of_bits (fun k hk => hq k (used_bit.mp hk))
theorem and_bit : ∀ (l : List (List Nat)) (a k : Nat), (l.foldl (fun a q => a &&& usedN q) a).testBit k = true → a.testBit k = true ∧ ∀ q, q ∈ l → (usedN q).testBit k = true
  | [], a, k, h => ⟨h, fun q hq => by cases hq⟩
  | q :: l, a, k, h => by
    rw [List.foldl_cons] at h
    obtain ⟨h1, h2⟩ := and_bit l _ k h
    rw [Nat.testBit_and, Bool.and_eq_true] at h1
    exact ⟨h1.1, fun p hp => by
      rcases List.mem_cons.mp hp with rfl | hp
      · exact h1.2
      · exact h2 p hp⟩
theorem inAll_sub {l : List (List Nat)} {q : List Nat} {k : Nat} (hq : q ∈ l) (h : (inAllV l).testBit k = true) : k ∈ q := by
  unfold inAllV at h
  split at h
  · rw [Nat.zero_testBit] at h; cases h
  · exact used_bit.mp ((and_bit l 63 k h).2 q hq)
theorem inAll_pop {l : List (List Nat)} {q : List Nat} (hq : q ∈ l) (h6 : ∀ i, i ∈ q → i < 6) : popV (inAllV l) ≤ q.length :=
  Nat.le_trans (pop_mono (fun _ _ h => used_bit.mpr (inAll_sub hq h))) (pop_used h6)
theorem inAll_lt {l : List (List Nat)} {n : Nat} (h : ∀ q, q ∈ l → ∀ i, i ∈ q → i < n) : inAllV l < 2 ^ n := by
  cases hl : l with
  | nil => exact Nat.pow_pos (by decide)
  | cons q r =>
    rw [← hl]
    have hq : q ∈ l := by rw [hl]; exact List.mem_cons_self
    exact lt_of_bits (fun k hk => h q hq k (inAll_sub hq hk))
theorem any_bit {L : Nat} : ∀ (l : List (List Nat)) (a k : Nat), (∀ q, q ∈ l → q.length = L) → ((l.foldl (anyS L) a).testBit k = true ↔ (a.testBit k = true ∨ ∃ q, q ∈ l ∧ k ∈ q))
  | [], a, k, _ => ⟨fun h => Or.inl h, fun h => h.elim id (fun ⟨q, hq, _⟩ => by cases hq)⟩
  | p :: l, a, k, h => by
    rw [List.foldl_cons, any_bit l _ k (fun q hq => h q (List.mem_cons_of_mem _ hq))]
    have e : anyS L a p = a ||| usedN p := if_pos (h p List.mem_cons_self)
    rw [e, Nat.testBit_or, Bool.or_eq_true, used_bit]
    constructor
    · rintro ((h | h) | ⟨q, h1, h2⟩)
      · exact Or.inl h
      · exact Or.inr ⟨p, List.mem_cons_self, h⟩
      · exact Or.inr ⟨q, List.mem_cons_of_mem _ h1, h2⟩
    · rintro (h | ⟨q, h1, h2⟩)
      · exact Or.inl (Or.inl h)
      · rcases List.mem_cons.mp h1 with rfl | h1
        · exact Or.inl (Or.inr h2)
        · exact Or.inr ⟨q, h1, h2⟩
theorem any_lt {L n : Nat} {l : List (List Nat)} (hL : ∀ q, q ∈ l → q.length = L) (h : ∀ q, q ∈ l → ∀ i, i ∈ q → i < n) : l.foldl (anyS L) 0 < 2 ^ n := lt_of_bits (fun k hk => by
  rcases (any_bit l 0 k hL).mp hk with h1 | ⟨q, h1, h2⟩
  · rw [Nat.zero_testBit] at h1; cases h1
  · exact h q h1 k h2)
theorem best_mem {L : Nat} : ∀ (l : List (List Nat)) (o : Option (Nat × List Nat)) (b : Nat × List Nat), l.foldl (bestS L) o = some b → o = some b ∨ (b.2 ∈ l ∧ b.1 = popV (usedN b.2))
  | [], o, b, h => Or.inl h
  | q :: l, o, b, h => by
    rw [List.foldl_cons] at h
    rcases best_mem l _ b h with h1 | ⟨h1, h2⟩
    · unfold bestS at h1
      by_cases hq : q.length = L
      · rw [if_pos hq] at h1
        cases o with
        | none =>
          cases h1
          exact Or.inr ⟨List.mem_cons_self, rfl⟩
        | some c =>
          dsimp only at h1
          split at h1
          · cases h1
            exact Or.inr ⟨List.mem_cons_self, rfl⟩
          · exact Or.inl h1
      · rw [if_neg hq] at h1
        exact Or.inl h1
    · exact Or.inr ⟨List.mem_cons_of_mem _ h1, h2⟩
theorem open_keep {L : Nat} : ∀ (l : List (List Nat)) (i : Nat), l.foldl (openS L) (some i) = some i
  | [], _ => rfl
  | q :: l, i => by
    rw [List.foldl_cons]
    have e : openS L (some i) q = some i := by unfold openS; split <;> rfl
    rw [e, open_keep l i]
theorem open_zero : ∀ (l : List (List Nat)), (∀ q, q ∈ l → q.length = 0) → l.foldl (openS 0) none = none
  | [], _ => rfl
  | q :: l, h => by
    rw [List.foldl_cons]
    have e : openS 0 none q = none := by
      have := List.length_eq_zero_iff.mp (h q List.mem_cons_self)
      rw [this]
      rfl
    rw [e, open_zero l (fun p hp => h p (List.mem_cons_of_mem _ hp))]
theorem open_first {L : Nat} {q : List Nat} {l : List (List Nat)} (hq : q.length = L) (hL : ¬ L = 0) : ∃ i, i ∈ q ∧ (q :: l).foldl (openS L) none = some i := by
  cases hc : q with
  | nil => rw [hc] at hq; exact absurd hq.symm hL
  | cons i r =>
    refine ⟨i, List.mem_cons_self, ?_⟩
    rw [List.foldl_cons]
    have e : openS L none (i :: r) = some i := by
      unfold openS
      rw [if_pos (by rw [← hc]; exact hq)]
      rfl
    rw [e, open_keep]
/-! ways of words -/
theorem glOf_cons {x : Nat} {ws : List Nat} : glOf (x :: ws) = (x, none) :: glOf ws := rfl
theorem glOf_take {ws : List Nat} {k : Nat} : (glOf ws).take k = glOf (ws.take k) := by
  unfold glOf
  rw [List.map_take]
theorem step_word {H : HV} {i x : Nat} : stepV 0 H i (x, none) = canV H i x := by
  rw [stepV_0]
  show (true && canV H i x) = _
  rfl
theorem way_cons {H : HV} {x : Nat} {ws : List Nat} {q : List Nat} : q ∈ wys 0 (glOf (x :: ws)) H ↔ ∃ i r, q = i :: r ∧ i < hN H ∧ canV H i x = true ∧ r ∈ wys 0 (glOf ws) (pushV H i x) := by
  rw [glOf_cons, wys, lpF_mem]
  constructor
  · rintro ⟨i, h1, h2, h3⟩
    split at h3
    · rename_i hs
      rw [step_word] at hs
      obtain ⟨r, h4, rfl⟩ := List.mem_map.mp h3
      exact ⟨i, r, rfl, by omega, hs, h4⟩
    · cases h3
  · rintro ⟨i, r, rfl, h1, h2, h3⟩
    refine ⟨i, Nat.zero_le _, by omega, ?_⟩
    rw [if_pos (by rw [step_word]; exact h2)]
    exact List.mem_map.mpr ⟨r, h3, rfl⟩
theorem ne_of_mem {α : Type} {l : List α} {x : α} (h : x ∈ l) : ¬ l.length = 0 := fun e => by
  rw [List.length_eq_zero_iff.mp e] at h
  cases h
theorem mem_of_ne {α : Type} {l : List α} (h : ¬ l.length = 0) : ∃ x, x ∈ l := by
  cases l with
  | nil => exact absurd rfl h
  | cons x r => exact ⟨x, List.mem_cons_self⟩
theorem wys_take_nil {sil : Nat} {gs : List Gl} {H : HV} {k : Nat} (h : (wys sil (gs.take k) H).length = 0) : (wys sil gs H).length = 0 := by
  have h1 := wys_app_nil (gs.take k) (gs.drop k) H (List.length_eq_zero_iff.mp h)
  rw [List.take_append_drop] at h1
  rw [h1]
  rfl
theorem farL_spec {sil : Nat} {gs : List Gl} {H : HV} : ∀ (m k : Nat), k + m = gs.length → ¬ (wys sil (gs.take k) H).length = 0 → ¬ (wys sil (gs.take (farL sil gs H k m)) H).length = 0 ∧ (farL sil gs H k m < gs.length → (wys sil (gs.take (farL sil gs H k m + 1)) H).length = 0) ∧ farL sil gs H k m ≤ gs.length
  | 0, k, hk, h0 => by
    rw [farL]
    exact ⟨h0, fun h => absurd h (by omega), by omega⟩
  | m + 1, k, hk, h0 => by
    rw [farL]
    by_cases h : (wys sil (gs.take (k + 1)) H).length = 0
    · rw [if_pos h]
      exact ⟨h0, fun _ => h, by omega⟩
    · rw [if_neg h]
      exact farL_spec m (k + 1) (by omega) h
theorem far_spec {sil : Nat} {gs : List Gl} {H : HV} : ¬ (wys sil (gs.take (farL sil gs H 0 gs.length)) H).length = 0 ∧ (farL sil gs H 0 gs.length < gs.length → (wys sil (gs.take (farL sil gs H 0 gs.length + 1)) H).length = 0) ∧ farL sil gs H 0 gs.length ≤ gs.length :=
  farL_spec gs.length 0 (Nat.zero_add _) (by rw [List.take_zero, wys]; decide)
theorem far_full {sil : Nat} {gs : List Gl} {H : HV} : (wys sil gs H).length = 0 ↔ ¬ farL sil gs H 0 gs.length = gs.length := by
  obtain ⟨h1, h2, h3⟩ := far_spec (sil := sil) (gs := gs) (H := H)
  constructor
  · intro h e
    rw [e, List.take_length] at h1
    exact h1 h
  · intro h
    exact wys_take_nil (h2 (by omega))
theorem canV_n {H : HV} {i x : Nat} (h : canV H i x = true) : 0 < hB H i ∧ (hO H).length < 8 ∧ besideV H i = true := by
  unfold canV freeV at h
  simp only [Bool.and_eq_true, decide_eq_true_eq] at h
  exact ⟨h.1.2.1, h.1.1, h.1.2.2⟩
theorem not_self {H : HV} {i x y : Nat} : canV (pushV H i x) i y = false := by
  have e : besideV (pushV H i x) i = false := by
    show (i != i && _) = false
    simp
  unfold canV freeV
  rw [e]
  simp
/-! who, what -/
theorem say_set {H : HV} {i : Nat} : sayF H i = u32 (setV (canV H i)) := (setV_spec (canV H i)).1
theorem set_bit {p : Nat → Bool} {k : Nat} (hk : k < 6) : (setV p).testBit k = p k := (setV_spec p).2.2 k hk
theorem set_lt {p : Nat → Bool} : setV p < 64 := (setV_spec p).2.1
theorem bits_zero {s : Nat} (hs : s < 64) : s = 0 ↔ ∀ k, k < 6 → s.testBit k = false := by
  have key : ∀ s, s < 64 → (s = 0 ↔ ∀ k, k < 6 → s.testBit k = false) := by decide +kernel
  exact key s hs
theorem bits_all {s : Nat} (hs : s < 64) : s = 63 ↔ ∀ k, k < 6 → s.testBit k = true := by
  have key : ∀ s, s < 64 → (s = 63 ↔ ∀ k, k < 6 → s.testBit k = true) := by decide +kernel
  exact key s hs
theorem orF_add {p : Nat → Bool} : ∀ (m k i : Nat) (a : Int32), orF p i (m + k) a = orF p (i + m) k (orF p i m a)
  | 0, k, i, a => by rw [Nat.zero_add]; rfl
  | m + 1, k, i, a => by rw [show m + 1 + k = (m + k) + 1 by omega, orF, orF_add m k (i + 1), orF, show i + 1 + m = i + (m + 1) by omega]
theorem orF_no {p : Nat → Bool} : ∀ (m i : Nat) (a : Int32), (∀ j, i ≤ j → j < i + m → p j = false) → orF p i m a = a
  | 0, _, _, _ => rfl
  | m + 1, i, a, h => by
    rw [orF, h i (Nat.le_refl _) (by omega), if_neg (by decide)]
    exact orF_no m (i + 1) a (fun j h1 h2 => h j (by omega) (by omega))
theorem orF_set {p : Nat → Bool} {n : Nat} (hn : n ≤ 6) : orF p 0 n (u32 0) = u32 (setV (fun k => decide (k < n) && p k)) := by
  have h1 := orF_add (p := fun k => decide (k < n) && p k) n (6 - n) 0 (u32 0)
  rw [show n + (6 - n) = 6 by omega, (setV_spec _).1] at h1
  rw [h1, orF_no (p := fun k => decide (k < n) && p k) (6 - n) (0 + n) _ (fun j a b => by
    show (decide (j < n) && p j) = false
    rw [decide_eq_false (by omega)]
    rfl)]
  exact orF_congr n 0 _ (fun j _ hj => by
    show p j = (decide (j < n) && p j)
    rw [decide_eq_true (by omega)]
    rfl)
/-- the words that somebody can say next -/
def anyN (H : HV) : Nat → Nat → Nat → Nat
  | _, 0, a => a
  | i, m + 1, a => anyN H (i + 1) m (a ||| setV (canV H i))
theorem anyF_n {H : HV} : ∀ (m i a : Nat), a < 64 → anyF H i m (u32 a) = u32 (anyN H i m a) ∧ anyN H i m a < 64 ∧ ∀ x, x < 6 → ((anyN H i m a).testBit x = true ↔ (a.testBit x = true ∨ ∃ j, i ≤ j ∧ j < i + m ∧ canV H j x = true))
  | 0, i, a, ha => ⟨rfl, ha, fun x _ => ⟨Or.inl, fun h => h.elim id (fun ⟨j, h1, h2, _⟩ => absurd h1 (by omega))⟩⟩
  | m + 1, i, a, ha => by
    obtain ⟨e1, e2⟩ := u32_or ha (set_lt (p := canV H i))
    obtain ⟨h1, h2, h3⟩ := anyF_n m (i + 1) _ e2
    rw [anyF, anyN, say_set, e1]
    refine ⟨h1, h2, fun x hx => ?_⟩
    rw [h3 x hx, Nat.testBit_or, Bool.or_eq_true, set_bit hx]
    constructor
    · rintro ((h | h) | ⟨j, a1, a2, a3⟩)
      · exact Or.inl h
      · exact Or.inr ⟨i, Nat.le_refl _, by omega, h⟩
      · exact Or.inr ⟨j, by omega, by omega, a3⟩
    · rintro (h | ⟨j, a1, a2, a3⟩)
      · exact Or.inl (Or.inl h)
      · by_cases e : j = i
        · rw [e] at a3
          exact Or.inl (Or.inr a3)
        · exact Or.inr ⟨j, by omega, by omega, a3⟩
def nxt (H : HV) : Nat := anyN H 0 (hN H) 0
theorem nxt_spec (H : HV) : anyF H 0 (hN H) (u32 0) = u32 (nxt H) ∧ nxt H < 64 ∧ ∀ x, x < 6 → ((nxt H).testBit x = true ↔ ∃ i, i < hN H ∧ canV H i x = true) := by
  obtain ⟨h1, h2, h3⟩ := anyF_n (H := H) (hN H) 0 0 (by decide)
  refine ⟨h1, h2, fun x hx => (h3 x hx).trans ⟨fun h => ?_, fun ⟨i, a, b⟩ => Or.inr ⟨i, Nat.zero_le _, by omega, b⟩⟩⟩
  rcases h with h | ⟨j, -, a, b⟩
  · rw [Nat.zero_testBit] at h; cases h
  · exact ⟨j, by omega, b⟩
theorem nxt_zero {H : HV} : nxt H = 0 ↔ ∀ x, x < 6 → ∀ i, i < hN H → canV H i x = false := by
  obtain ⟨-, h2, h3⟩ := nxt_spec H
  rw [bits_zero h2]
  constructor
  · intro h x hx i hi
    cases hc : canV H i x with
    | false => rfl
    | true =>
      have := (h3 x hx).mpr ⟨i, hi, hc⟩
      rw [h x hx] at this
      cases this
  · intro h x hx
    cases hb : (nxt H).testBit x with
    | false => rfl
    | true =>
      obtain ⟨i, hi, hc⟩ := (h3 x hx).mp hb
      rw [h x hx i hi] at hc
      cases hc
theorem sil_nxt {H : HV} : silB H 0 (hN H) = true ↔ nxt H = 0 := by
  rw [silB_iff, nxt_zero]
  constructor
  · intro h x hx i hi
    exact (sayF_0.mp (h i (Nat.zero_le _) (by omega))) x hx
  · intro h i _ hi
    exact sayF_0.mpr (fun x hx => h x hx i (by omega))
/-! the shortest that none can say, the longest that can be gone on with -/
theorem sayP_1 {H : HV} {x : Nat} (hx : x < 6) : sayP H 1 x = true ↔ ∃ i, i < hN H ∧ canV H i x = true := by
  have e : digL 1 x = [x] := by
    have key : ∀ x, x < 6 → digL 1 x = [x] := by decide
    exact key x hx
  unfold sayP
  rw [e]
  constructor
  · intro h
    cases hw : wys 0 (glOf [x]) H with
    | nil => rw [hw] at h; cases h
    | cons q l =>
      obtain ⟨i, r, -, h1, h2, -⟩ := way_cons.mp (show q ∈ wys 0 (glOf [x]) H by rw [hw]; exact List.mem_cons_self)
      exact ⟨i, h1, h2⟩
  · rintro ⟨i, h1, h2⟩
    cases hw : wys 0 (glOf [x]) H with
    | nil =>
      have := way_cons.mpr (show ∃ i' r, [i] = i' :: r ∧ i' < hN H ∧ canV H i' x = true ∧ r ∈ wys 0 (glOf []) (pushV H i' x) from ⟨i, [], rfl, h1, h2, by show [] ∈ wys 0 [] _; rw [wys]; exact List.mem_cons_self⟩)
      rw [hw] at this
      cases this
    | cons q l => rfl
theorem sayP_w {H : HV} {n s : Nat} : sayP H n s = true ↔ ¬ (wys 0 (glOf (digL n s)) H).length = 0 := by
  unfold sayP
  cases wys 0 (glOf (digL n s)) H with
  | nil => exact ⟨fun h => (by cases h), fun h => absurd rfl h⟩
  | cons q l => exact ⟨fun _ h => (by cases h), fun _ => rfl⟩
theorem findD_none {P : Nat → Bool} : ∀ (m s : Nat), findD P s m = none → ∀ j, s ≤ j → j < s + m → P j = true
  | 0, s, _, j, h1, h2 => absurd h1 (by omega)
  | m + 1, s, h, j, h1, h2 => by
    rw [findD] at h
    split at h
    · rename_i hp
      by_cases e : j = s
      · rw [e]; exact hp
      · exact findD_none m (s + 1) h j (by omega) (by omega)
    · cases h
theorem findD_some {P : Nat → Bool} : ∀ (m s x : Nat), findD P s m = some x → P x = false
  | 0, s, x, h => by cases h
  | m + 1, s, x, h => by
    rw [findD] at h
    split at h
    · exact findD_some m (s + 1) x h
    · rename_i hp
      cases h
      simpa using hp
theorem findU_none {P : Nat → Bool} : ∀ (m s : Nat), findU P s m = none → ∀ j, s ≤ j → j < s + m → P j = false
  | 0, s, _, j, h1, h2 => absurd h1 (by omega)
  | m + 1, s, h, j, h1, h2 => by
    rw [findU] at h
    split at h
    · cases h
    · rename_i hp
      by_cases e : j = s
      · rw [e]; simpa using hp
      · exact findU_none m (s + 1) h j (by omega) (by omega)
theorem findU_some {P : Nat → Bool} : ∀ (m s x : Nat), findU P s m = some x → P x = true
  | 0, s, x, h => by cases h
  | m + 1, s, x, h => by
    rw [findU] at h
    split at h
    · rename_i hp
      cases h
      exact hp
    · exact findU_some m (s + 1) x h
theorem dumbF_spec {H : HV} : ∀ (m n : Nat), match dumbF H n m with
    | none => ∀ k, n ≤ k → k < n + m → ∀ x, x < 6 ^ k → sayP H k x = true
    | some p => n ≤ p.1 ∧ p.1 < n + m ∧ p.2 < 6 ^ p.1 ∧ sayP H p.1 p.2 = false ∧ ∀ k, n ≤ k → k < p.1 → ∀ x, x < 6 ^ k → sayP H k x = true
  | 0, n => fun k h1 h2 => absurd h1 (by omega)
  | m + 1, n => by
    rw [dumbF]
    cases hf : findD (sayP H n) 0 (6 ^ n) with
    | some x =>
      have h1 := findD_lt _ _ _ hf
      exact ⟨Nat.le_refl _, by omega, (show x < 6 ^ n by omega), findD_some _ _ _ hf, fun k a b => absurd a (by omega)⟩
    | none =>
      have hn := findD_none _ _ hf
      have ih := dumbF_spec (H := H) m (n + 1)
      dsimp only
      cases hd : dumbF H (n + 1) m with
      | none =>
        rw [hd] at ih
        intro k a b x hx
        by_cases e : k = n
        · rw [e] at hx ⊢
          exact hn x (Nat.zero_le _) (by omega)
        · exact ih k (by omega) (by omega) x hx
      | some p =>
        rw [hd] at ih
        obtain ⟨a1, a2, a3, a4, a5⟩ := ih
        refine ⟨by omega, by omega, a3, a4, fun k a b x hx => ?_⟩
        by_cases e : k = n
        · rw [e] at hx ⊢
          exact hn x (Nat.zero_le _) (by omega)
        · exact a5 k (by omega) b x hx
theorem dumb_one {H : HV} : (∃ x, dumbF H 1 3 = some (1, x)) ↔ ¬ nxt H = 63 := by
  obtain ⟨-, h2, h3⟩ := nxt_spec H
  have hs := dumbF_spec (H := H) 3 1
  constructor
  · rintro ⟨x, h⟩ e
    rw [h] at hs
    obtain ⟨-, -, a3, a4, -⟩ := hs
    have hx : x < 6 := a3
    have hb := (bits_all h2).mp e x hx
    have := (sayP_1 hx).mpr ((h3 x hx).mp hb)
    rw [show sayP H 1 x = false from a4] at this
    cases this
  · intro h
    cases hd : dumbF H 1 3 with
    | none =>
      rw [hd] at hs
      refine absurd ((bits_all h2).mpr (fun x hx => (h3 x hx).mpr ((sayP_1 hx).mp (hs 1 (Nat.le_refl _) (by decide) x hx)))) h
    | some p =>
      rw [hd] at hs
      obtain ⟨a1, a2, a3, a4, a5⟩ := hs
      by_cases e : p.1 = 1
      · exact ⟨p.2, by rw [← e]⟩
      · refine absurd ((bits_all h2).mpr (fun x hx => (h3 x hx).mpr ((sayP_1 hx).mp (a5 1 (Nat.le_refl _) (by omega) x hx)))) h
theorem longF_ok {H : HV} : ∀ n, sayP H (longF H n).1 (longF H n).2 = true
  | 0 => by
    rw [longF]
    rfl
  | n + 1 => by
    rw [longF]
    cases hf : findU (sayP H (n + 1)) 0 (6 ^ (n + 1)) with
    | none => exact longF_ok n
    | some s => exact findU_some _ _ _ hf
theorem longF_most {H : HV} : ∀ (n k s : Nat), k ≤ n → s < 6 ^ k → sayP H k s = true → k ≤ (longF H n).1
  | 0, k, s, h, _, _ => Nat.le_trans h (Nat.zero_le _)
  | n + 1, k, s, h, hs, hp => by
    rw [longF]
    cases hf : findU (sayP H (n + 1)) 0 (6 ^ (n + 1)) with
    | none =>
      by_cases e : k = n + 1
      · rw [e] at hs hp
        rw [findU_none _ _ hf s (Nat.zero_le _) (by omega)] at hp
        cases hp
      · exact longF_most n k s (by omega) hs hp
    | some s => exact h
theorem long_zero {H : HV} : (longF H 4).1 = 0 ↔ nxt H = 0 := by
  obtain ⟨-, h2, h3⟩ := nxt_spec H
  constructor
  · intro h
    rw [nxt_zero]
    intro x hx i hi
    cases hc : canV H i x with
    | false => rfl
    | true =>
      have := longF_most (H := H) 4 1 x (by decide) hx ((sayP_1 hx).mpr ⟨i, hi, hc⟩)
      omega
  · intro h
    rw [nxt_zero] at h
    have hk := longF_ok (H := H) 4
    rw [sayP_w] at hk
    obtain ⟨q, hq⟩ := mem_of_ne hk
    cases hl : digL (longF H 4).1 (longF H 4).2 with
    | nil =>
      have := digL_len (n := (longF H 4).1) (s := (longF H 4).2)
      rw [hl] at this
      exact this.symm
    | cons x ws =>
      rw [hl] at hq
      obtain ⟨i, r, -, a1, a2, -⟩ := way_cons.mp hq
      have hx : x < 6 := by
        have : (digL (longF H 4).1 (longF H 4).2)[0]? = some x := by rw [hl]; rfl
        obtain ⟨-, e⟩ := digL_at this
        rw [e]
        exact Nat.mod_lt _ (by decide)
      rw [h x hx i a1] at a2
      cases a2
/-! by rooms -/
theorem lpF_lenle {α β : Type} {f : Nat → List α} {g : Nat → List β} : ∀ (m i : Nat), (∀ j, i ≤ j → j < i + m → (f j).length ≤ (g j).length) → (lpF f i m).length ≤ (lpF g i m).length
  | 0, _, _ => Nat.le_refl _
  | m + 1, i, h => by
    rw [lpF, lpF, List.length_append, List.length_append]
    have h1 := h i (Nat.le_refl _) (by omega)
    have h2 := lpF_lenle m (i + 1) (fun j a b => h j (by omega) (by omega))
    omega
theorem wys_room : ∀ (gs : List Gl) (H : HV), (wys 0 gs H).length ≤ (wys 0 (glOf (gs.map (fun g => g.1))) H).length
  | [], H => Nat.le_refl _
  | g :: gs, H => by
    show _ ≤ (wys 0 ((g.1, none) :: glOf (gs.map (fun g => g.1))) H).length
    rw [wys, wys]
    refine lpF_lenle _ _ (fun j _ _ => ?_)
    by_cases hs : stepV 0 H j g = true
    · have hs2 : stepV 0 H j (g.1, none) = true := by
        rw [step_word]
        rw [stepV_0, Bool.and_eq_true] at hs
        exact hs.2
      rw [if_pos hs, if_pos hs2, List.length_map, List.length_map]
      exact wys_room gs _
    · rw [if_neg hs]
      exact Nat.zero_le _
/-! how far off -/
theorem dM_bounds {o g : Nat → Int32} : ∀ (a b : Nat), dM o g a b ≤ max a b ∧ a ≤ dM o g a b + b ∧ b ≤ dM o g a b + a
  | 0, b => by
    show b ≤ max 0 b ∧ 0 ≤ b + b ∧ b ≤ b + 0
    omega
  | a + 1, 0 => by
    show a + 1 ≤ max (a + 1) 0 ∧ a + 1 ≤ a + 1 + 0 ∧ 0 ≤ a + 1 + (a + 1)
    omega
  | a + 1, b + 1 => by
    have h1 := dM_bounds (o := o) (g := g) a b
    have h2 := dM_bounds (o := o) (g := g) a (b + 1)
    have h3 := dM_bounds (o := o) (g := g) (a + 1) b
    rw [dM_ss]
    have hc : (if o a = g b then 0 else 1) ≤ 1 := by split <;> omega
    generalize (if o a = g b then 0 else 1) = c at hc
    omega
theorem dM_self {o g : Nat → Int32} : ∀ (a : Nat), (∀ k, k < a → o k = g k) → dM o g a a = 0
  | 0, _ => rfl
  | a + 1, h => by
    rw [dM_ss, dM_self a (fun k hk => h k (by omega)), if_pos (h a (by omega))]
    omega
/-! by turns -/
theorem goV_lost {f : HV → Int32} {H : HV} : ∀ (m k : Nat), (∀ j, k ≤ j → j < k + m → canV H (j / 6) (j % 6) = false) → goV f H k m true = u32 1
  | 0, k, _ => rfl
  | m + 1, k, h => by
    rw [goV, h k (Nat.le_refl _) (by omega), if_neg (by decide)]
    exact goV_lost m (k + 1) (fun j a b => h j (by omega) (by omega))
theorem goV_win {f : HV → Int32} {H : HV} : ∀ (m k : Nat) (lost : Bool), (∃ j, k ≤ j ∧ j < k + m ∧ canV H (j / 6) (j % 6) = true ∧ f (pushV H (j / 6) (j % 6)) = u32 1) → goV f H k m lost = u32 0
  | 0, k, _, ⟨j, h1, h2, _⟩ => absurd h1 (by omega)
  | m + 1, k, lost, ⟨j, h1, h2, h3, h4⟩ => by
    rw [goV]
    by_cases e : j = k
    · rw [e] at h3 h4
      rw [if_pos h3, if_pos h4]
    · have ih : ∀ l, goV f H (k + 1) m l = u32 0 := fun l => goV_win m (k + 1) l ⟨j, by omega, by omega, h3, h4⟩
      rw [ih, ih]
      split
      · split
        · rfl
        · split <;> rfl
      · rfl
theorem twoV_zero {H : HV} : ∀ (m k : Nat), twoV H k m = u32 0 → ∃ j, k ≤ j ∧ j < k + m ∧ canV H (j / 6) (j % 6) = true ∧ silB (pushV H (j / 6) (j % 6)) 0 (hN H) = true
  | 0, k, h => by
    rw [twoV] at h
    exact absurd h (by decide)
  | m + 1, k, h => by
    rw [twoV] at h
    have ih : twoV H (k + 1) m = u32 0 → _ := twoV_zero m (k + 1)
    split at h
    · split at h
      · exact ⟨k, Nat.le_refl _, by omega, by assumption, by assumption⟩
      · obtain ⟨j, a, b, c⟩ := ih h
        exact ⟨j, by omega, by omega, c⟩
    · obtain ⟨j, a, b, c⟩ := ih h
      exact ⟨j, by omega, by omega, c⟩
theorem out_dumb {H : HV} (h : nxt H = 0) : outV 1 H = u32 1 ∧ outV 2 H = u32 1 ∧ outV 3 H = u32 1 := by
  have hs := sil_nxt.mpr h
  have hz : ∀ j, 0 ≤ j → j < 0 + 6 * hN H → canV H (j / 6) (j % 6) = false := fun j _ hj => nxt_zero.mp h _ (Nat.mod_lt _ (by decide)) _ (by omega)
  refine ⟨if_pos hs, ?_, ?_⟩
  · rw [outV_2, if_pos hs]
  · show goV (outV 2) H 0 (6 * hN H) true = _
    exact goV_lost _ _ hz
theorem out_one {H : HV} (h : ¬ nxt H = 0) : outV 1 H = -u32 9 := if_neg (fun e => h (sil_nxt.mp e))
theorem out_win {H : HV} (h : outV 2 H = u32 0) : outV 3 H = u32 0 := by
  rw [outV_2] at h
  split at h
  · exact absurd h (by decide)
  · obtain ⟨j, a, b, c, d⟩ := twoV_zero _ _ h
    show goV (outV 2) H 0 (6 * hN H) true = _
    refine goV_win _ _ _ ⟨j, a, b, c, ?_⟩
    rw [outV_2, if_pos (show silB (pushV H (j / 6) (j % 6)) 0 (hN (pushV H (j / 6) (j % 6))) = true from d)]
