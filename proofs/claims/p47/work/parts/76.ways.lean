/-! pure: ways, by lists -/
abbrev Gl : Type := Nat × Option Nat
def lpF {α : Type} (f : Nat → List α) : Nat → Nat → List α
  | _, 0 => []
  | i, m + 1 => f i ++ lpF f (i + 1) m
def roomV (H : HV) (i : Nat) (g : Gl) : Bool := match g.2 with
  | none => true
  | some q => decide (hR H i = q)
def stepV (sil : Nat) (H : HV) (i : Nat) (g : Gl) : Bool := !sil.testBit i && (roomV H i g && canV H i g.1)
/-- all ways, none of the silent -/
def wys (sil : Nat) : List Gl → HV → List (List Nat)
  | [], _ => [[]]
  | g :: gs, H => lpF (fun i => if stepV sil H i g = true then (wys sil gs (pushV H i g.1)).map (fun q => i :: q) else []) 0 (hN H)
/-- all parts of ways from the first word on, each ahead of those that go on with it -/
def tre (sil : Nat) : List Gl → HV → List (List Nat)
  | [], _ => [[]]
  | g :: gs, H => [] :: lpF (fun i => if stepV sil H i g = true then (tre sil gs (pushV H i g.1)).map (fun q => i :: q) else []) 0 (hN H)
theorem lpF_congr {α : Type} {f g : Nat → List α} : ∀ (m i : Nat), (∀ j, i ≤ j → j < i + m → f j = g j) → lpF f i m = lpF g i m
  | 0, _, _ => rfl
  | m + 1, i, h => by
    rw [lpF, lpF, h i (Nat.le_refl _) (by omega), lpF_congr m (i + 1) (fun j h1 h2 => h j (by omega) (by omega))]
theorem lpF_map {α β : Type} {f : Nat → List α} (k : α → β) : ∀ (m i : Nat), (lpF f i m).map k = lpF (fun j => (f j).map k) i m
  | 0, _ => rfl
  | m + 1, i => by rw [lpF, lpF, List.map_append, lpF_map k m (i + 1)]
theorem lpF_filter {α : Type} {f : Nat → List α} (p : α → Bool) : ∀ (m i : Nat), (lpF f i m).filter p = lpF (fun j => (f j).filter p) i m
  | 0, _ => rfl
  | m + 1, i => by rw [lpF, lpF, List.filter_append, lpF_filter p m (i + 1)]
theorem lpF_nil {α : Type} {f : Nat → List α} : ∀ (m i : Nat), (∀ j, i ≤ j → j < i + m → f j = []) → lpF f i m = []
  | 0, _, _ => rfl
  | m + 1, i, h => by
    rw [lpF, h i (Nat.le_refl _) (by omega), lpF_nil m (i + 1) (fun j h1 h2 => h j (by omega) (by omega))]
    rfl
theorem lpF_mem {α : Type} {f : Nat → List α} {x : α} : ∀ (m i : Nat), x ∈ lpF f i m ↔ ∃ j, i ≤ j ∧ j < i + m ∧ x ∈ f j
  | 0, i => by
    refine ⟨fun h => (by cases h), fun ⟨j, h1, h2, _⟩ => absurd h1 (by omega)⟩
  | m + 1, i => by
    rw [lpF, List.mem_append, lpF_mem m (i + 1)]
    refine ⟨fun h => ?_, fun ⟨j, h1, h2, h3⟩ => ?_⟩
    · rcases h with h | ⟨j, h1, h2, h3⟩
      · exact ⟨i, Nat.le_refl _, by omega, h⟩
      · exact ⟨j, by omega, by omega, h3⟩
    · by_cases e : j = i
      · subst e
        exact Or.inl h3
      · exact Or.inr ⟨j, by omega, by omega, h3⟩
theorem lpF_len {α : Type} {f : Nat → List α} {b : Nat} : ∀ (m i : Nat), (∀ j, (f j).length ≤ b) → (lpF f i m).length ≤ m * b
  | 0, _, _ => by simp [lpF]
  | m + 1, i, h => by
    rw [lpF, List.length_append, Nat.succ_mul]
    have h1 := h i
    have h2 := lpF_len m (i + 1) h
    omega
theorem hN_push {H : HV} {i x : Nat} : hN (pushV H i x) = hN H := rfl
theorem wys_len {sil : Nat} : ∀ (gs : List Gl) (H : HV), hN H ≤ 6 → (wys sil gs H).length ≤ 6 ^ gs.length
  | [], _, _ => by simp [wys]
  | g :: gs, H, h => by
    rw [wys, List.length_cons, Nat.pow_succ, Nat.mul_comm]
    refine Nat.le_trans (lpF_len (b := 6 ^ gs.length) (hN H) 0 (fun j => ?_)) (Nat.mul_le_mul_right _ h)
    split
    · rw [List.length_map]
      exact wys_len gs _ h
    · exact Nat.zero_le _
theorem wys_each {sil : Nat} : ∀ (gs : List Gl) (H : HV) (q : List Nat), q ∈ wys sil gs H → q.length = gs.length ∧ ∀ i, i ∈ q → i < hN H
  | [], H, q, hq => by
    rw [wys, List.mem_singleton] at hq
    subst hq
    exact ⟨rfl, fun i hi => by cases hi⟩
  | g :: gs, H, q, hq => by
    rw [wys, lpF_mem] at hq
    obtain ⟨j, h1, h2, h3⟩ := hq
    split at h3
    · obtain ⟨r, h4, rfl⟩ := List.mem_map.mp h3
      obtain ⟨h5, h6⟩ := wys_each gs _ r h4
      refine ⟨by rw [List.length_cons, List.length_cons, h5], fun i hi => ?_⟩
      rcases List.mem_cons.mp hi with rfl | hi
      · omega
      · exact h6 i hi
    · cases h3
theorem tre_full {sil : Nat} : ∀ (gs : List Gl) (H : HV) (d : Nat), (tre sil gs H).filter (fun q => q.length == d) = if d ≤ gs.length then wys sil (gs.take d) H else []
  | [], H, 0 => rfl
  | [], H, d + 1 => by
    rw [if_neg (by simp)]
    rfl
  | g :: gs, H, 0 => by
    rw [if_pos (Nat.zero_le _), tre, List.take_zero, wys, List.filter_cons_of_pos rfl]
    refine congrArg (fun l => [] :: l) ?_
    rw [lpF_filter]
    refine lpF_nil _ _ (fun j _ _ => ?_)
    split
    · rw [List.filter_eq_nil_iff]
      intro q hq
      obtain ⟨r, -, rfl⟩ := List.mem_map.mp hq
      simp
    · rfl
  | g :: gs, H, d + 1 => by
    rw [tre, List.filter_cons_of_neg (by simp), lpF_filter]
    have ih := fun H => tre_full (sil := sil) gs H d
    by_cases hd : d ≤ gs.length
    · rw [if_pos (by rw [List.length_cons]; omega), List.take_succ_cons, wys]
      refine lpF_congr _ _ (fun j _ _ => ?_)
      split
      · rw [List.filter_map]
        have := ih (pushV H j g.1)
        rw [if_pos hd] at this
        rw [← this]
        refine congrArg (List.map _) ?_
        refine congrArg (fun p => List.filter p _) ?_
        funext q
        show ((j :: q).length == d + 1) = (q.length == d)
        rw [List.length_cons]
        by_cases e : q.length = d
        · simp [e]
        · simp [e]
      · rfl
    · rw [if_neg (by rw [List.length_cons]; omega)]
      refine lpF_nil _ _ (fun j _ _ => ?_)
      split
      · rw [List.filter_map]
        have := ih (pushV H j g.1)
        rw [if_neg hd] at this
        have e : ((fun (q : List Nat) => q.length == d + 1) ∘ fun q => j :: q) = (fun q => q.length == d) := by
          funext q
          show ((j :: q).length == d + 1) = (q.length == d)
          rw [List.length_cons]
          by_cases e : q.length = d
          · simp [e]
          · simp [e]
        rw [e, this]
        rfl
      · rfl
/-- who speaks, by bits -/
def usedN (p : List Nat) : Nat := p.foldl (fun s i => s ||| 2 ^ i) 0
theorem usedN_snoc (p : List Nat) (i : Nat) : usedN (p ++ [i]) = usedN p ||| 2 ^ i := by
  unfold usedN
  rw [List.foldl_append]
  rfl
theorem usedN_lt : ∀ (p : List Nat) (s : Nat), s < 64 → (∀ i, i ∈ p → i < 6) → p.foldl (fun s i => s ||| 2 ^ i) s < 64
  | [], s, h, _ => h
  | i :: p, s, h, hp => by
    rw [List.foldl_cons]
    refine usedN_lt p _ ?_ (fun j hj => hp j (List.mem_cons_of_mem _ hj))
    have hi := hp i List.mem_cons_self
    have : 2 ^ i < 2 ^ 6 := Nat.pow_lt_pow_right (by decide) hi
    exact Nat.or_lt_two_pow (n := 6) h this
theorem usedN_64 {p : List Nat} (hp : ∀ i, i ∈ p → i < 6) : usedN p < 64 := usedN_lt p 0 (by decide) hp
theorem u32_or_bit {s i : Nat} (hs : s < 64) (hi : i < 6) : u32 s ||| (u32 1 <<< (u32 i &&& u32 31)) = u32 (s ||| 2 ^ i) := by
  have key : ∀ s, s < 64 → ∀ i, i < 6 → u32 s ||| (u32 1 <<< (u32 i &&& u32 31)) = u32 (s ||| 2 ^ i) := by decide +kernel
  exact key s hs i hi
/-! what is held of the parts gone through (V): how many of each length, how far by who spoke, the best, who opens, who is in all, in any, what a guest says -/
def cntV (V : List (List Nat)) (d : Nat) : Nat := (V.filter (fun q => q.length == d)).length
def reachS (s : Nat) (o : Option Nat) (p : List Nat) : Option Nat := if usedN p = s then (match o with
  | none => some p.length
  | some m => some (if m < p.length then p.length else m)) else o
def reachV (V : List (List Nat)) (s : Nat) : Option Nat := V.foldl (reachS s) none
def bestS (L : Nat) (o : Option (Nat × List Nat)) (p : List Nat) : Option (Nat × List Nat) := if p.length = L then (match o with
  | none => some (popV (usedN p), p)
  | some b => if popV (usedN p) < b.1 then some (popV (usedN p), p) else o) else o
def bestV (L : Nat) (V : List (List Nat)) : Option (Nat × List Nat) := V.foldl (bestS L) none
def openS (L : Nat) (o : Option Nat) (p : List Nat) : Option Nat := if p.length = L then (match o with
  | none => p.head?
  | some _ => o) else o
def openV (L : Nat) (V : List (List Nat)) : Option Nat := V.foldl (openS L) none
def allS (L : Nat) (o : Option Nat) (p : List Nat) : Option Nat := if p.length = L then (match o with
  | none => some (usedN p)
  | some a => some (a &&& usedN p)) else o
def allV (L : Nat) (V : List (List Nat)) : Option Nat := V.foldl (allS L) none
def anyS (L : Nat) (a : Nat) (p : List Nat) : Nat := if p.length = L then a ||| usedN p else a
def anyV (L : Nat) (V : List (List Nat)) : Nat := V.foldl (anyS L) 0
/-- the words (bits) that a guest says by a way -/
def sayG (gu : Nat) : List Nat → List Gl → Nat → Nat
  | i :: p, g :: gs, s => sayG gu p gs (if i = gu then s ||| 2 ^ g.1 else s)
  | _, _, s => s
def lessV (a b : Nat) : Bool := decide (popV a < popV b ∨ (popV a = popV b ∧ a < b))
def guS (L gu : Nat) (gs : List Gl) (o : Option Nat) (p : List Nat) : Option Nat := if p.length = L then (match o with
  | none => some (sayG gu p gs 0)
  | some b => if lessV (sayG gu p gs 0) b = true then some (sayG gu p gs 0) else o) else o
def guV (L gu : Nat) (gs : List Gl) (V : List (List Nat)) : Option Nat := V.foldl (guS L gu gs) none
theorem cntV_snoc (V : List (List Nat)) (p : List Nat) (d : Nat) : cntV (V ++ [p]) d = cntV V d + (if p.length = d then 1 else 0) := by
  unfold cntV
  rw [List.filter_append, List.length_append]
  by_cases h : p.length = d
  · rw [if_pos h, List.filter_cons_of_pos (by simpa using h)]
    rfl
  · rw [if_neg h, List.filter_cons_of_neg (by simpa using h)]
    rfl

