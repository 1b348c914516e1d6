/-! pure: how far, when some are silent -/
def Mx (V : List (List Nat)) (p : Nat → Prop) : Option Nat → Prop
  | none => ∀ q, q ∈ V → ¬ p (usedN q)
  | some m => (∃ q, q ∈ V ∧ p (usedN q) ∧ q.length = m) ∧ ∀ q, q ∈ V → p (usedN q) → q.length ≤ m
def maxO : Option Nat → Option Nat → Option Nat
  | none, b => b
  | some x, none => some x
  | some x, some y => some (if x < y then y else x)
theorem maxO_self (a : Option Nat) : maxO a a = a := by
  cases a with
  | none => rfl
  | some x => show some (if x < x then x else x) = some x; rw [ite_self]
theorem maxO_cell {a b : Option Nat} (ha : ∀ m, a = some m → m ≤ 5) (hb : ∀ m, b = some m → m ≤ 5) : (if oAns a < oAns b then oAns b else oAns a) = oAns (maxO a b) := by
  cases a with
  | none =>
    cases b with
    | none => rfl
    | some y =>
      have e : (oAns none < oAns (some y)) = True := u32_neg_lt (by have := hb y rfl; omega) (by decide) (by decide)
      simp only [e, if_true]
      rfl
  | some x =>
    have hx := ha x rfl
    cases b with
    | none =>
      have e : (oAns (some x) < oAns none) = False := u32_lt_neg (by omega) (by decide) (by decide)
      simp only [e, if_false]
      rfl
    | some y =>
      have hy := hb y rfl
      have e : (oAns (some x) < oAns (some y)) = (x < y) := u32_lt (by omega) (by omega)
      simp only [e]
      show _ = oAns (some (if x < y then y else x))
      by_cases h : x < y
      · rw [if_pos h, if_pos h]
      · rw [if_neg h, if_neg h]
theorem maxO_le {a b : Option Nat} (ha : ∀ m, a = some m → m ≤ 5) (hb : ∀ m, b = some m → m ≤ 5) : ∀ m, maxO a b = some m → m ≤ 5 := by
  intro m hm
  cases a with
  | none => exact hb m hm
  | some x =>
    cases b with
    | none => exact ha m hm
    | some y =>
      have hx := ha x rfl
      have hy := hb y rfl
      have hm : some (if x < y then y else x) = some m := hm
      cases hm
      split <;> omega
theorem Mx_or {V : List (List Nat)} {p p' : Nat → Prop} {a b : Option Nat} (ha : Mx V p a) (hb : Mx V p' b) : Mx V (fun T => p T ∨ p' T) (maxO a b) := by
  cases a with
  | none =>
    cases b with
    | none => exact fun q hq h => h.elim (ha q hq) (hb q hq)
    | some y =>
      obtain ⟨⟨q, h1, h2, h3⟩, h4⟩ := hb
      exact ⟨⟨q, h1, Or.inr h2, h3⟩, fun q hq h => h.elim (fun h => absurd h (ha q hq)) (h4 q hq)⟩
  | some x =>
    obtain ⟨⟨q, h1, h2, h3⟩, h4⟩ := ha
    cases b with
    | none => exact ⟨⟨q, h1, Or.inl h2, h3⟩, fun q hq h => h.elim (h4 q hq) (fun h => absurd h (hb q hq))⟩
    | some y =>
      obtain ⟨⟨q', k1, k2, k3⟩, k4⟩ := hb
      show Mx V _ (some (if x < y then y else x))
      by_cases hxy : x < y
      · rw [if_pos hxy]
        exact ⟨⟨q', k1, Or.inr k2, k3⟩, fun r hr h => h.elim (fun h => by have := h4 r hr h; omega) (k4 r hr)⟩
      · rw [if_neg hxy]
        exact ⟨⟨q, h1, Or.inl h2, h3⟩, fun r hr h => h.elim (h4 r hr) (fun h => by have := k4 r hr h; omega)⟩
theorem Mx_congr {V : List (List Nat)} {p p' : Nat → Prop} {o : Option Nat} (h : ∀ q, q ∈ V → (p (usedN q) ↔ p' (usedN q))) (ho : Mx V p o) : Mx V p' o := by
  cases o with
  | none => exact fun q hq hp => ho q hq ((h q hq).mpr hp)
  | some m =>
    obtain ⟨⟨q, h1, h2, h3⟩, h4⟩ := ho
    exact ⟨⟨q, h1, (h q h1).mp h2, h3⟩, fun q hq hp => h4 q hq ((h q hq).mpr hp)⟩
theorem Mx_fold {s : Nat} : ∀ (V V0 : List (List Nat)) (o : Option Nat), Mx V0 (fun T => T = s) o → Mx (V0 ++ V) (fun T => T = s) (V.foldl (reachS s) o)
  | [], V0, o, h => by rw [List.append_nil]; exact h
  | q :: V, V0, o, h => by
    rw [List.foldl_cons, show V0 ++ q :: V = (V0 ++ [q]) ++ V by rw [List.append_assoc]; rfl]
    refine Mx_fold V (V0 ++ [q]) _ ?_
    unfold reachS
    by_cases hs : usedN q = s
    · rw [if_pos hs]
      cases o with
      | none =>
        refine ⟨⟨q, List.mem_append_right _ List.mem_cons_self, hs, rfl⟩, fun r hr hp => ?_⟩
        rcases List.mem_append.mp hr with hr | hr
        · exact absurd hp (h r hr)
        · rw [List.mem_singleton] at hr; rw [hr]; exact Nat.le_refl _
      | some m =>
        obtain ⟨⟨r, h1, h2, h3⟩, h4⟩ := h
        dsimp only
        by_cases hm : m < q.length
        · rw [if_pos hm]
          refine ⟨⟨q, List.mem_append_right _ List.mem_cons_self, hs, rfl⟩, fun r hr hp => ?_⟩
          rcases List.mem_append.mp hr with hr | hr
          · have := h4 r hr hp; omega
          · rw [List.mem_singleton] at hr; rw [hr]; exact Nat.le_refl _
        · rw [if_neg hm]
          refine ⟨⟨r, List.mem_append_left _ h1, h2, h3⟩, fun r hr hp => ?_⟩
          rcases List.mem_append.mp hr with hr | hr
          · exact h4 r hr hp
          · rw [List.mem_singleton] at hr; rw [hr]; omega
    · rw [if_neg hs]
      cases o with
      | none =>
        intro r hr hp
        rcases List.mem_append.mp hr with hr | hr
        · exact h r hr hp
        · rw [List.mem_singleton] at hr; rw [hr] at hp; exact hs hp
      | some m =>
        obtain ⟨⟨r, h1, h2, h3⟩, h4⟩ := h
        refine ⟨⟨r, List.mem_append_left _ h1, h2, h3⟩, fun r hr hp => ?_⟩
        rcases List.mem_append.mp hr with hr | hr
        · exact h4 r hr hp
        · rw [List.mem_singleton] at hr; rw [hr] at hp; exact absurd hp hs
theorem reach_Mx (V : List (List Nat)) (s : Nat) : Mx V (fun T => T = s) (reachV V s) := by
  have h := Mx_fold (s := s) V [] none (fun q hq => by cases hq)
  rw [List.nil_append] at h
  exact h
def clr (s k : Nat) : Nat := s &&& (63 - 2 ^ k)
theorem clr_lt {s k : Nat} (hs : s < 64) : clr s k < 64 := Nat.lt_of_le_of_lt Nat.and_le_left hs
theorem clr_bit {s k j : Nat} (hs : s < 64) (hk : k < 6) (hj : j < 6) : (clr s k).testBit j = (s.testBit j && !decide (j = k)) := by
  have key : ∀ s, s < 64 → ∀ k, k < 6 → ∀ j, j < 6 → (clr s k).testBit j = (s.testBit j && !decide (j = k)) := by decide +kernel
  exact key s hs k hk j hj
theorem clr_u {s k : Nat} (hs : s < 64) (hk : k < 6) : u32 s &&& ((u32 1 <<< (u32 k &&& u32 31)) ^^^ -u32 1) = u32 (clr s k) := by
  have key : ∀ s, s < 64 → ∀ k, k < 6 → u32 s &&& ((u32 1 <<< (u32 k &&& u32 31)) ^^^ -u32 1) = u32 (clr s k) := by decide +kernel
  exact key s hs k hk
theorem clr_clr {s k : Nat} (hs : s < 64) (hk : k < 6) : clr (clr s k) k = clr s k := by
  have key : ∀ s, s < 64 → ∀ k, k < 6 → clr (clr s k) k = clr s k := by decide +kernel
  exact key s hs k hk
def SubS (k s T : Nat) : Prop := ∀ j, j < 6 → (j < k → T.testBit j = true → s.testBit j = true) ∧ (k ≤ j → T.testBit j = s.testBit j)
theorem SubS_step {k s T : Nat} (hs : s < 64) (hk : k < 6) : SubS (k + 1) s T ↔ SubS k s T ∨ SubS k (clr s k) T := by
  constructor
  · intro h
    by_cases e : T.testBit k = s.testBit k
    · left
      intro j hj
      refine ⟨fun h1 => (h j hj).1 (by omega), fun h1 => ?_⟩
      by_cases ej : j = k
      · rw [ej]; exact e
      · exact (h j hj).2 (by omega)
    · right
      have hk1 := (h k hk).1 (by omega)
      have hT : T.testBit k = false := by
        cases hT : T.testBit k with
        | false => rfl
        | true => exact absurd (by rw [hT, hk1 hT]) e
      intro j hj
      rw [clr_bit hs hk hj]
      refine ⟨fun h1 ht => ?_, fun h1 => ?_⟩
      · rw [(h j hj).1 (by omega) ht, decide_eq_false (by omega)]; rfl
      · by_cases ej : j = k
        · rw [ej, hT, decide_eq_true rfl]; simp
        · rw [(h j hj).2 (by omega), decide_eq_false ej]; simp
  · rintro (h | h)
    · intro j hj
      refine ⟨fun h1 ht => ?_, fun h1 => (h j hj).2 (by omega)⟩
      by_cases ej : j = k
      · rw [ej] at ht hj ⊢
        rw [← (h k hj).2 (Nat.le_refl _)]; exact ht
      · exact (h j hj).1 (by omega) ht
    · intro j hj
      have hb := clr_bit hs hk hj
      refine ⟨fun h1 ht => ?_, fun h1 => ?_⟩
      · by_cases ej : j = k
        · have h2 := (h j hj).2 (by omega)
          rw [hb, decide_eq_true ej] at h2
          rw [h2] at ht
          simp at ht
        · have h2 := (h j hj).1 (by omega) ht
          rw [hb, Bool.and_eq_true] at h2
          exact h2.1
      · have h2 := (h j hj).2 (by omega)
        rw [hb, decide_eq_false (by omega)] at h2
        rw [h2]
        simp
theorem SubS_0 {s T : Nat} (hs : s < 64) (hT : T < 64) : T = s ↔ SubS 0 s T := by
  constructor
  · intro h j hj
    rw [h]
    exact ⟨fun h => absurd h (Nat.not_lt_zero _), fun _ => rfl⟩
  · intro h
    refine Nat.eq_of_testBit_eq (fun j => ?_)
    by_cases hj : j < 6
    · exact (h j hj).2 (Nat.zero_le _)
    · have h2 : 2 ^ 6 ≤ 2 ^ j := Nat.pow_le_pow_right (by decide) (by omega)
      rw [Nat.testBit_lt_two_pow (by omega), Nat.testBit_lt_two_pow (by omega)]
def spr (V : List (List Nat)) : Nat → Nat → Option Nat
  | 0, s => reachV V s
  | k + 1, s => maxO (spr V k s) (spr V k (clr s k))
theorem spr_le {V : List (List Nat)} (h : ∀ s m, reachV V s = some m → m ≤ 5) : ∀ (k s m : Nat), spr V k s = some m → m ≤ 5
  | 0, s, m, hm => h s m hm
  | k + 1, s, m, hm => maxO_le (spr_le h k s) (spr_le h k (clr s k)) m hm
theorem spr_Mx {V : List (List Nat)} (hV : ∀ q, q ∈ V → usedN q < 64) : ∀ (k s : Nat), k ≤ 6 → s < 64 → Mx V (SubS k s) (spr V k s)
  | 0, s, _, hs => Mx_congr (fun q hq => SubS_0 hs (hV q hq)) (reach_Mx V s)
  | k + 1, s, hk, hs => Mx_congr (fun q hq => (SubS_step hs (by omega)).symm) (Mx_or (spr_Mx hV k s (by omega) hs) (spr_Mx hV k (clr s k) (by omega) (clr_lt hs)))
theorem spr_clr {V : List (List Nat)} {k s : Nat} (hs : s < 64) (hk : k < 6) : spr V (k + 1) (clr s k) = spr V k (clr s k) := by
  rw [spr, clr_clr hs hk, maxO_self]
/-! the tree without the silent -/
theorem tre_each {sil : Nat} : ∀ (gs : List Gl) (H : HV) (q : List Nat), q ∈ tre sil gs H → q.length ≤ gs.length ∧ ∀ i, i ∈ q → i < hN H
  | [], H, q, hq => by
    rw [tre, List.mem_singleton] at hq
    subst hq
    exact ⟨Nat.le_refl _, fun i hi => by cases hi⟩
  | g :: gs, H, q, hq => by
    rw [tre, List.mem_cons, lpF_mem] at hq
    rcases hq with rfl | ⟨j, h1, h2, h3⟩
    · exact ⟨Nat.zero_le _, fun i hi => by cases hi⟩
    · by_cases hs : stepV sil H j g = true
      · rw [if_pos hs] at h3
        obtain ⟨r, h4, rfl⟩ := List.mem_map.mp h3
        obtain ⟨h5, h6⟩ := tre_each gs _ r h4
        refine ⟨by rw [List.length_cons, List.length_cons]; omega, fun i hi => ?_⟩
        rcases List.mem_cons.mp hi with rfl | hi
        · omega
        · exact h6 i hi
      · rw [if_neg hs] at h3
        cases h3
theorem stepV_sil {sil : Nat} {H : HV} {i : Nat} {g : Gl} : stepV sil H i g = (!sil.testBit i && stepV 0 H i g) := by
  unfold stepV
  rw [Nat.zero_testBit]
  simp
theorem tre_sil {sil : Nat} : ∀ (gs : List Gl) (H : HV) (q : List Nat), q ∈ tre sil gs H ↔ q ∈ tre 0 gs H ∧ ∀ i, i ∈ q → sil.testBit i = false
  | [], H, q => by
    rw [tre, tre, List.mem_singleton]
    refine ⟨fun h => ⟨h, fun i hi => by rw [h] at hi; cases hi⟩, fun h => h.1⟩
  | g :: gs, H, q => by
    rw [tre, tre, List.mem_cons, List.mem_cons, lpF_mem, lpF_mem]
    constructor
    · rintro (rfl | ⟨j, h1, h2, h3⟩)
      · exact ⟨Or.inl rfl, fun i hi => by cases hi⟩
      · by_cases hs : stepV sil H j g = true
        · rw [if_pos hs] at h3
          obtain ⟨r, h4, rfl⟩ := List.mem_map.mp h3
          obtain ⟨h5, h6⟩ := (tre_sil gs _ r).mp h4
          rw [stepV_sil, Bool.and_eq_true] at hs
          refine ⟨Or.inr ⟨j, h1, h2, ?_⟩, fun i hi => ?_⟩
          · rw [if_pos hs.2]
            exact List.mem_map.mpr ⟨r, h5, rfl⟩
          · rcases List.mem_cons.mp hi with rfl | hi
            · simpa using hs.1
            · exact h6 i hi
        · rw [if_neg hs] at h3
          cases h3
    · rintro ⟨rfl | ⟨j, h1, h2, h3⟩, hsil⟩
      · exact Or.inl rfl
      · by_cases hs : stepV 0 H j g = true
        · rw [if_pos hs] at h3
          obtain ⟨r, h4, rfl⟩ := List.mem_map.mp h3
          refine Or.inr ⟨j, h1, h2, ?_⟩
          rw [stepV_sil, hsil j List.mem_cons_self, hs, if_pos (show (!false && true) = true from rfl)]
          exact List.mem_map.mpr ⟨r, (tre_sil gs _ r).mpr ⟨h4, fun i hi => hsil i (List.mem_cons_of_mem _ hi)⟩, rfl⟩
        · rw [if_neg hs] at h3
          cases h3
theorem usedF_bit : ∀ (q : List Nat) (s i : Nat), (q.foldl (fun s i => s ||| 2 ^ i) s).testBit i = (s.testBit i || decide (i ∈ q))
  | [], s, i => by simp
  | x :: q, s, i => by
    rw [List.foldl_cons, usedF_bit q, Nat.testBit_or, Nat.testBit_two_pow, Bool.or_assoc]
    refine congrArg (fun b => s.testBit i || b) ?_
    by_cases e : x = i
    · simp [e]
    · have e2 : ¬ i = x := fun h => e h.symm
      simp [e, e2]
theorem usedN_bit (q : List Nat) (i : Nat) : (usedN q).testBit i = decide (i ∈ q) := by
  unfold usedN
  rw [usedF_bit, Nat.zero_testBit, Bool.false_or]
def comp (n s : Nat) : Nat := 2 ^ n - 1 - s
theorem comp_bit {n s i : Nat} (hn : n ≤ 6) (hs : s < 2 ^ n) (hi : i < n) : (comp n s).testBit i = !s.testBit i := by
  have key : ∀ n, n < 7 → ∀ s, s < 2 ^ n → ∀ i, i < n → (comp n s).testBit i = !s.testBit i := by decide +kernel
  exact key n (by omega) s hs i hi
/-- what the farthest is, by the tree -/
theorem farL_char {sil : Nat} {gs : List Gl} {H : HV} : ∀ (m k : Nat), k + m = gs.length → ¬ (wys sil (gs.take k) H).length = 0 → ¬ (wys sil (gs.take (farL sil gs H k m)) H).length = 0 ∧ (farL sil gs H k m = gs.length ∨ (wys sil (gs.take (farL sil gs H k m + 1)) H).length = 0)
  | 0, k, hk, h => ⟨h, Or.inl (by rw [farL]; omega)⟩
  | m + 1, k, hk, h => by
    rw [farL]
    by_cases h0 : (wys sil (gs.take (k + 1)) H).length = 0
    · rw [if_pos h0]
      exact ⟨h, Or.inr h0⟩
    · rw [if_neg h0]
      exact farL_char m (k + 1) (by omega) h0
theorem farL_tre {sil : Nat} {gs : List Gl} {H : HV} : (∃ q, q ∈ tre sil gs H ∧ q.length = farL sil gs H 0 gs.length) ∧ ∀ q, q ∈ tre sil gs H → q.length ≤ farL sil gs H 0 gs.length := by
  have h0 : ¬ (wys sil (gs.take 0) H).length = 0 := by rw [List.take_zero, wys]; decide
  obtain ⟨h1, h2⟩ := farL_char gs.length 0 (by omega) h0
  have hle := (farL_le (sil := sil) (gs := gs) (H := H) gs.length 0).2
  generalize farL sil gs H 0 gs.length = f at h1 h2 hle
  constructor
  · cases hw : wys sil (gs.take f) H with
    | nil => rw [hw] at h1; exact absurd rfl h1
    | cons q l =>
      have hq : q ∈ (tre sil gs H).filter (fun q => q.length == f) := by
        rw [tre_full, if_pos (by omega), hw]
        exact List.mem_cons_self
      rw [List.mem_filter] at hq
      exact ⟨q, hq.1, by simpa using hq.2⟩
  · intro q hq
    have hl := (tre_each gs H q hq).1
    have hf : q ∈ (tre sil gs H).filter (fun r => r.length == q.length) := List.mem_filter.mpr ⟨hq, by simp⟩
    rw [tre_full, if_pos hl] at hf
    rcases h2 with h2 | h2
    · omega
    · by_cases hlt : q.length ≤ f
      · exact hlt
      · have := wys_take_le (sil := sil) (gs := gs) (H := H) (q.length - (f + 1)) (f + 1) (List.length_eq_zero_iff.mp h2)
        rw [show f + 1 + (q.length - (f + 1)) = q.length by omega] at this
        rw [this] at hf
        cases hf
theorem spr_far {n s : Nat} {gs : List Gl} {H : HV} (hn : n = hN H) (h6 : n ≤ 6) (hs : s < 2 ^ n) : spr (tre 0 gs H) n s = some (farL (comp n s) gs H 0 gs.length) := by
  have h64 : s < 64 := by
    have : 2 ^ n ≤ 2 ^ 6 := Nat.pow_le_pow_right (by decide) h6
    omega
  have hV : ∀ q, q ∈ tre 0 gs H → ∀ i, i ∈ q → i < n := fun q hq i hi => by rw [hn]; exact (tre_each gs H q hq).2 i hi
  have hm := spr_Mx (V := tre 0 gs H) (fun q hq => usedN_64 (fun i hi => by have := hV q hq i hi; omega)) n s h6 h64
  have hp : ∀ q, q ∈ tre 0 gs H → (SubS n s (usedN q) ↔ q ∈ tre (comp n s) gs H) := by
    intro q hq
    rw [tre_sil]
    constructor
    · intro h
      refine ⟨hq, fun i hi => ?_⟩
      have hin := hV q hq i hi
      have := (h i (by omega)).1 hin (by rw [usedN_bit]; exact decide_eq_true hi)
      rw [comp_bit h6 hs hin, this]
      rfl
    · rintro ⟨-, h⟩ j hj
      refine ⟨fun h1 ht => ?_, fun h1 => ?_⟩
      · rw [usedN_bit] at ht
        have := h j (of_decide_eq_true ht)
        rw [comp_bit h6 hs h1] at this
        simpa using this
      · rw [usedN_bit, decide_eq_false (fun hjq => by have := hV q hq j hjq; omega), Nat.testBit_lt_two_pow (Nat.lt_of_lt_of_le hs (Nat.pow_le_pow_right (by decide) h1))]
  obtain ⟨⟨q, f1, f2⟩, f3⟩ := farL_tre (sil := comp n s) (gs := gs) (H := H)
  have q0 := ((tre_sil gs H q).mp f1).1
  cases ho : spr (tre 0 gs H) n s with
  | none =>
    rw [ho] at hm
    exact absurd ((hp q q0).mpr f1) (hm q q0)
  | some m =>
    rw [ho] at hm
    obtain ⟨⟨r, m1, m2, m3⟩, m4⟩ := hm
    have e1 := f3 r ((hp r m1).mp m2)
    have e2 := m4 q q0 ((hp q q0).mpr f1)
    rw [show m = farL (comp n s) gs H 0 gs.length by omega]
/-! sums and products -/
def prodN (f : Nat → Nat) : Nat → Nat → Nat → Nat
  | _, 0, a => a
  | i, m + 1, a => prodN f (i + 1) m (a * f i)
theorem prodN_congr {f g : Nat → Nat} : ∀ (m i a : Nat), (∀ j, i ≤ j → j < i + m → f j = g j) → prodN f i m a = prodN g i m a
  | 0, _, _, _ => rfl
  | m + 1, i, a, h => by rw [prodN, prodN, h i (Nat.le_refl _) (by omega), prodN_congr m (i + 1) _ (fun j h1 h2 => h j (by omega) (by omega))]
def sumN (f : Nat → Nat) : Nat → Nat
  | 0 => 0
  | k + 1 => sumN f k + f k
theorem sumN_congr {f g : Nat → Nat} : ∀ (k : Nat), (∀ j, j < k → f j = g j) → sumN f k = sumN g k
  | 0, _ => rfl
  | k + 1, h => by rw [sumN, sumN, h k (by omega), sumN_congr k (fun j hj => h j (by omega))]
theorem sumN_shift (f : Nat → Nat) : ∀ (k : Nat), sumN f (k + 1) = f 0 + sumN (fun s => f (s + 1)) k
  | 0 => by rw [sumN, sumN, sumN]; omega
  | k + 1 => by rw [sumN, sumN_shift f k, sumN]; omega
theorem sumN_rev (f : Nat → Nat) : ∀ (k : Nat), sumN (fun s => f (k - 1 - s)) k = sumN f k
  | 0 => rfl
  | k + 1 => by
    rw [sumN_shift, sumN, Nat.add_comm (sumN f k), ← sumN_rev f k]
    refine congrArg (fun x => f k + x) (sumN_congr k (fun j hj => ?_))
    show f (k + 1 - 1 - (j + 1)) = f (k - 1 - j)
    congr 1
    omega
theorem sumN_le {f g : Nat → Nat} {c : Nat} : ∀ (k : Nat), (∀ j, j < k → f j ≤ c * g j) → sumN f k ≤ c * sumN g k
  | 0, _ => Nat.zero_le _
  | k + 1, h => by
    rw [sumN, sumN, Nat.mul_add]
    have := h k (by omega)
    have := sumN_le k (fun j hj => h j (by omega))
    omega
/-- the weight of those who are not silent -/
def wgt (n p s : Nat) : Nat := prodN (fun i => if s.testBit i = true then 12 - p else p) 0 n 1
theorem wgt_all {n p : Nat} (hn : n ≤ 6) (hp : p ≤ 12) : sumN (wgt n p) (2 ^ n) = 12 ^ n := by
  have key : ∀ n, n < 7 → ∀ p, p < 13 → sumN (wgt n p) (2 ^ n) = 12 ^ n := by decide +kernel
  exact key n (by omega) p (by omega)

