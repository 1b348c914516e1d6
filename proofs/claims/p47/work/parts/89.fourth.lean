/-! pure: a fourth who would help -/
def guestH (H : HV) (room s : Nat) : HV := (hN H + 1, updN (hK H) (hN H) 0, updN (hW H) (hN H) s, updN (hR H) (hN H) room, updN (hB H) (hN H) 9, hH H, hO H)
theorem updN_eq {f : Nat → Nat} {i v : Nat} : updN f i v i = v := if_pos rfl
theorem updN_ne {f : Nat → Nat} {i v j : Nat} (h : j ≠ i) : updN f i v j = f j := if_neg h
theorem guestH_ok {H : HV} {room s : Nat} (h : HOk H) (hn : hN H < 6) (hr : room < 6) (hs : s < 64) : HOk (guestH H room s) := by
  obtain ⟨h1, h2, h3, h4, h5⟩ := h
  refine ⟨by show hN H + 1 ≤ 6; omega, fun i hi => ?_, h3, h4, fun p hp => ⟨(h5 p hp).1, Nat.lt_succ_of_lt (h5 p hp).2⟩⟩
  have hi : i < hN H + 1 := hi
  show updN (hK H) (hN H) 0 i < 6 ∧ updN (hW H) (hN H) s i < 64 ∧ updN (hR H) (hN H) room i < 6 ∧ updN (hB H) (hN H) 9 i ≤ 9
  by_cases e : i = hN H
  · rw [e, updN_eq, updN_eq, updN_eq, updN_eq]
    exact ⟨by omega, hs, hr, by omega⟩
  · rw [updN_ne e, updN_ne e, updN_ne e, updN_ne e]
    exact h2 i (by omega)
/-- as H, but for the words of n -/
def LikeN (n s : Nat) (H1 H2 : HV) : Prop := hN H2 = hN H1 ∧ hK H2 = hK H1 ∧ hR H2 = hR H1 ∧ hB H2 = hB H1 ∧ hH H2 = hH H1 ∧ hO H2 = hO H1 ∧ (∀ i, i ≠ n → hW H2 i = hW H1 i) ∧ hK H1 n = 0 ∧ hW H1 n = 63 ∧ hW H2 n = s
theorem LikeN.push {n s i x : Nat} {H1 H2 : HV} (h : LikeN n s H1 H2) : LikeN n s (pushV H1 i x) (pushV H2 i x) := by
  obtain ⟨h1, h2, h3, h4, h5, h6, h7, h8, h9, h10⟩ := h
  refine ⟨h1, h2, h3, ?_, h5, ?_, h7, h8, h9, h10⟩
  · show updN (hB H2) i (hB H2 i - 1) = updN (hB H1) i (hB H1 i - 1)
    rw [h4]
  · show (x, i) :: hO H2 = (x, i) :: hO H1
    rw [h6]
theorem bit63 {x : Nat} (hx : x < 6) : Nat.testBit 63 x = true := by
  have key : ∀ x, x < 6 → Nat.testBit 63 x = true := by decide
  exact key x hx
theorem LikeN.step {n s i : Nat} {H1 H2 : HV} {g : Gl} (h : LikeN n s H1 H2) (hg : g.1 < 6) : stepV 0 H2 i g = (stepV 0 H1 i g && (if i = n then s.testBit g.1 else true)) := by
  obtain ⟨h1, h2, h3, h4, h5, h6, h7, h8, h9, h10⟩ := h
  have hroom : roomV H2 i g = roomV H1 i g := by unfold roomV; rw [h3]
  have hfree : freeV H2 i = freeV H1 i := by unfold freeV besideV; rw [h6, h4, h3]
  unfold stepV canV
  rw [hroom, hfree, h2, h5, h6]
  by_cases e : i = n
  · subst e
    rw [if_pos rfl, h8, h9, h10]
    have a1 : ∀ v, ableV 0 v (hH H1) (lastW (hO H1)) g.1 = v.testBit g.1 := fun _ => rfl
    rw [a1, a1, bit63 hg]
    cases Nat.testBit 0 i <;> cases roomV H1 i g <;> cases freeV H1 i <;> cases s.testBit g.1 <;> rfl
  · rw [if_neg e, h7 i e, Bool.and_true]
def okS (n s : Nat) : List Nat → List Gl → Bool
  | i :: p, g :: gs => (if i = n then s.testBit g.1 else true) && okS n s p gs
  | _, _ => true
theorem wys_like {n s : Nat} : ∀ (gs : List Gl) (H1 H2 : HV) (q : List Nat), LikeN n s H1 H2 → (∀ g, g ∈ gs → g.1 < 6) → (q ∈ wys 0 gs H2 ↔ q ∈ wys 0 gs H1 ∧ okS n s q gs = true)
  | [], H1, H2, q, h, hg => by
    rw [wys, wys, List.mem_singleton]
    refine ⟨fun e => ⟨e, by rw [e]; rfl⟩, fun e => e.1⟩
  | g :: gs, H1, H2, q, h, hg => by
    have hg6 := hg g List.mem_cons_self
    have ih := fun i q => wys_like gs (pushV H1 i g.1) (pushV H2 i g.1) q h.push (fun g hg' => hg g (List.mem_cons_of_mem _ hg'))
    rw [wys, wys, lpF_mem, lpF_mem, h.1]
    constructor
    · rintro ⟨j, h1, h2, h3⟩
      rw [h.step hg6] at h3
      by_cases hs : (stepV 0 H1 j g && (if j = n then s.testBit g.1 else true)) = true
      · rw [if_pos hs] at h3
        rw [Bool.and_eq_true] at hs
        obtain ⟨r, h4, rfl⟩ := List.mem_map.mp h3
        obtain ⟨h5, h6⟩ := (ih j r).mp h4
        refine ⟨⟨j, h1, h2, ?_⟩, ?_⟩
        · rw [if_pos hs.1]
          exact List.mem_map.mpr ⟨r, h5, rfl⟩
        · rw [okS, hs.2, h6]
          rfl
      · rw [if_neg hs] at h3
        cases h3
    · rintro ⟨⟨j, h1, h2, h3⟩, ho⟩
      split at h3
      · rename_i hs
        obtain ⟨r, h4, rfl⟩ := List.mem_map.mp h3
        rw [okS, Bool.and_eq_true] at ho
        refine ⟨j, h1, h2, ?_⟩
        rw [h.step hg6, hs, ho.1, if_pos (show (true && true) = true from rfl)]
        exact List.mem_map.mpr ⟨r, (ih j r).mpr ⟨h4, ho.2⟩, rfl⟩
      · cases h3
theorem sayG_sub {n s : Nat} : ∀ (p : List Nat) (gs : List Gl) (a : Nat), (∀ x, (sayG n p gs a).testBit x = true → s.testBit x = true) ↔ (∀ x, a.testBit x = true → s.testBit x = true) ∧ okS n s p gs = true
  | [], gs, a => by
    rw [sayG.eq_def]
    exact ⟨fun h => ⟨h, by rfl⟩, fun h => h.1⟩
  | i :: p, [], a => by
    rw [sayG.eq_def]
    exact ⟨fun h => ⟨h, by rfl⟩, fun h => h.1⟩
  | i :: p, g :: gs, a => by
    rw [sayG, sayG_sub p gs, okS]
    by_cases e : i = n
    · rw [if_pos e, if_pos e, Bool.and_eq_true]
      constructor
      · rintro ⟨h1, h2⟩
        refine ⟨fun x hx => h1 x ?_, h1 g.1 ?_, h2⟩
        · rw [Nat.testBit_or, hx]; rfl
        · rw [Nat.testBit_or, Nat.testBit_two_pow_self, Bool.or_true]
      · rintro ⟨h1, h2, h3⟩
        refine ⟨fun x hx => ?_, h3⟩
        rw [Nat.testBit_or, Bool.or_eq_true] at hx
        rcases hx with hx | hx
        · exact h1 x hx
        · rw [Nat.testBit_two_pow] at hx
          have : g.1 = x := of_decide_eq_true hx
          rw [← this]
          exact h2
    · rw [if_neg e, if_neg e, Bool.true_and]
theorem sub_and {a s : Nat} : (∀ x, a.testBit x = true → s.testBit x = true) ↔ a &&& s = a := by
  constructor
  · intro h
    refine Nat.eq_of_testBit_eq (fun x => ?_)
    rw [Nat.testBit_and]
    cases ha : a.testBit x with
    | false => rfl
    | true => rw [h x ha]; rfl
  · intro h x hx
    rw [← h, Nat.testBit_and, Bool.and_eq_true] at hx
    exact hx.2
/-- a set of words with which there is a way -/
def hasS (n : Nat) (gs : List Gl) (W : List (List Nat)) (s : Nat) : Prop := ∃ q, q ∈ W ∧ sayG n q gs 0 &&& s = sayG n q gs 0
theorem hasS_iff {n s : Nat} {gs : List Gl} {H1 H2 : HV} (h : LikeN n s H1 H2) (hg : ∀ g, g ∈ gs → g.1 < 6) : hasS n gs (wys 0 gs H1) s ↔ ¬ (wys 0 gs H2).length = 0 := by
  constructor
  · rintro ⟨q, h1, h2⟩ h0
    have := (wys_like gs H1 H2 q h hg).mpr ⟨h1, ((sayG_sub q gs 0).mp (sub_and.mpr h2)).2⟩
    rw [List.length_eq_zero_iff.mp h0] at this
    cases this
  · intro h0
    cases hw : wys 0 gs H2 with
    | nil => rw [hw] at h0; exact absurd rfl h0
    | cons q l =>
      obtain ⟨h1, h2⟩ := (wys_like gs H1 H2 q h hg).mp (by rw [hw]; exact List.mem_cons_self)
      refine ⟨q, h1, sub_and.mp ((sayG_sub q gs 0).mpr ⟨fun x hx => ?_, h2⟩)⟩
      rw [Nat.zero_testBit] at hx
      cases hx
theorem less_sub {a b : Nat} (ha : a < 64) (hb : b < 64) (h : a &&& b = a) : a = b ∨ lessV a b = true := by
  have key : ∀ a, a < 64 → ∀ b, b < 64 → (a &&& b = a) → a = b ∨ lessV a b = true := by decide +kernel
  exact key a ha b hb h
theorem less_tri {a b : Nat} (ha : a < 64) (hb : b < 64) (h1 : lessV a b = false) (h2 : lessV b a = false) : a = b := by
  unfold lessV at h1 h2
  have h1 := of_decide_eq_false h1
  have h2 := of_decide_eq_false h2
  omega
theorem less_trans {a b c : Nat} (h1 : lessV a b = false) (h2 : lessV c b = true) : lessV a c = false := by
  unfold lessV at h1 h2 ⊢
  have h1 := of_decide_eq_false h1
  have h2 := of_decide_eq_true h2
  exact decide_eq_false (by omega)
/-- the class's least -/
theorem guV_min {n : Nat} {gs : List Gl} : ∀ (W : List (List Nat)) (o : Option Nat), (∀ q, q ∈ W → q.length = gs.length) → match W.foldl (guS gs.length n gs) o with
    | none => W = [] ∧ o = none
    | some m => (o = some m ∨ ∃ q, q ∈ W ∧ sayG n q gs 0 = m) ∧ (∀ b, o = some b → lessV b m = false) ∧ ∀ q, q ∈ W → lessV (sayG n q gs 0) m = false
  | [], o, _ => by
    cases o with
    | none => exact ⟨rfl, rfl⟩
    | some b =>
      refine ⟨Or.inl rfl, fun c hc => ?_, fun q hq => by cases hq⟩
      cases hc
      unfold lessV
      exact decide_eq_false (by omega)
  | q :: W, o, hl => by
    rw [List.foldl_cons]
    have hq := hl q List.mem_cons_self
    have hg : guS gs.length n gs o q = (match o with | none => some (sayG n q gs 0) | some b => if lessV (sayG n q gs 0) b = true then some (sayG n q gs 0) else o) := if_pos hq
    have ih := guV_min (n := n) W (guS gs.length n gs o q) (fun p hp => hl p (List.mem_cons_of_mem _ hp))
    have irr : ∀ x, lessV x x = false := fun x => by unfold lessV; exact decide_eq_false (by omega)
    cases hr : W.foldl (guS gs.length n gs) (guS gs.length n gs o q) with
    | none =>
      rw [hr] at ih
      obtain ⟨-, ih⟩ := ih
      rw [hg] at ih
      cases o with
      | none => cases ih
      | some b =>
        dsimp only at ih
        split at ih <;> cases ih
    | some m =>
      rw [hr] at ih
      obtain ⟨i1, i2, i3⟩ := ih
      rw [hg] at i1 i2
      cases o with
      | none =>
        dsimp only at i1 i2
        refine ⟨Or.inr ?_, fun b hb => (by cases hb), fun p hp => ?_⟩
        · rcases i1 with i1 | ⟨p, hp, i1⟩
          · cases i1; exact ⟨q, List.mem_cons_self, rfl⟩
          · exact ⟨p, List.mem_cons_of_mem _ hp, i1⟩
        · rcases List.mem_cons.mp hp with rfl | hp
          · exact i2 _ rfl
          · exact i3 p hp
      | some b =>
        dsimp only at i1 i2
        by_cases hlt : lessV (sayG n q gs 0) b = true
        · rw [if_pos hlt] at i1 i2
          refine ⟨Or.inr ?_, fun c hc => ?_, fun p hp => ?_⟩
          · rcases i1 with i1 | ⟨p, hp, i1⟩
            · cases i1; exact ⟨q, List.mem_cons_self, rfl⟩
            · exact ⟨p, List.mem_cons_of_mem _ hp, i1⟩
          · cases hc
            have h1 := i2 _ rfl
            unfold lessV at h1 hlt ⊢
            have h1 := of_decide_eq_false h1
            have hlt := of_decide_eq_true hlt
            exact decide_eq_false (by omega)
          · rcases List.mem_cons.mp hp with rfl | hp
            · exact i2 _ rfl
            · exact i3 p hp
        · rw [if_neg hlt] at i1 i2
          refine ⟨?_, i2, fun p hp => ?_⟩
          · rcases i1 with i1 | ⟨p, hp, i1⟩
            · exact Or.inl i1
            · exact Or.inr ⟨p, List.mem_cons_of_mem _ hp, i1⟩
          · rcases List.mem_cons.mp hp with rfl | hp
            · have h1 := i2 _ rfl
              have hlt := eq_false_of_ne_true hlt
              unfold lessV at h1 hlt ⊢
              have h1 := of_decide_eq_false h1
              have hlt := of_decide_eq_false hlt
              exact decide_eq_false (by omega)
            · exact i3 p hp
/-- the model's least of the first k sets -/
def leastM (has : Nat → Bool) : Nat → Option Nat
  | 0 => none
  | k + 1 => match leastM has k with
    | none => if has k = true then some k else none
    | some b => if popV k < popV b ∧ has k = true then some k else some b
theorem leastM_min (has : Nat → Bool) : ∀ k, match leastM has k with
    | none => ∀ s, s < k → has s = false
    | some m => m < k ∧ has m = true ∧ ∀ s, s < k → has s = true → lessV s m = false
  | 0 => fun s hs => absurd hs (Nat.not_lt_zero _)
  | k + 1 => by
    have ih := leastM_min has k
    rw [leastM]
    cases hl : leastM has k with
    | none =>
      rw [hl] at ih
      dsimp only
      cases hk : has k with
      | false =>
        rw [if_neg (by decide)]
        intro s hs
        by_cases e : s = k
        · rw [e]; exact hk
        · exact ih s (by omega)
      | true =>
        rw [if_pos rfl]
        refine ⟨by omega, hk, fun s hs hh => ?_⟩
        by_cases e : s = k
        · rw [e]
          unfold lessV
          exact decide_eq_false (by omega)
        · rw [ih s (by omega)] at hh
          cases hh
    | some b =>
      rw [hl] at ih
      obtain ⟨i1, i2, i3⟩ := ih
      dsimp only
      by_cases hc : popV k < popV b ∧ has k = true
      · rw [if_pos hc]
        refine ⟨by omega, hc.2, fun s hs hh => ?_⟩
        by_cases e : s = k
        · rw [e]
          unfold lessV
          exact decide_eq_false (by omega)
        · have h1 := i3 s (by omega) hh
          unfold lessV at h1 ⊢
          have h1 := of_decide_eq_false h1
          exact decide_eq_false (by omega)
      · rw [if_neg hc]
        refine ⟨by omega, i2, fun s hs hh => ?_⟩
        by_cases e : s = k
        · rw [e] at hh ⊢
          have : ¬ popV k < popV b := fun h => hc ⟨h, hh⟩
          unfold lessV
          exact decide_eq_false (by omega)
        · exact i3 s (by omega) hh
theorem least_same {n : Nat} {gs : List Gl} {W : List (List Nat)} {has : Nat → Bool} (hl : ∀ q, q ∈ W → q.length = gs.length) (hg : ∀ g, g ∈ gs → g.1 < 6) (hh : ∀ s, s < 64 → (has s = true ↔ hasS n gs W s)) : leastM has 64 = W.foldl (guS gs.length n gs) none := by
  have hm := leastM_min has 64
  have hc := guV_min (n := n) (gs := gs) W none hl
  have h64 : ∀ q, sayG n q gs 0 < 64 := fun q => sayG_lt q gs 0 (by decide) hg
  have hself : ∀ q, q ∈ W → has (sayG n q gs 0) = true := fun q hq => (hh _ (h64 q)).mpr ⟨q, hq, Nat.and_self _⟩
  cases h1 : leastM has 64 with
  | none =>
    rw [h1] at hm
    cases h2 : W.foldl (guS gs.length n gs) none with
    | none => rfl
    | some m =>
      rw [h2] at hc
      rcases hc.1 with h | ⟨q, hq, rfl⟩
      · cases h
      · have e := hself q hq
        rw [hm _ (h64 q)] at e
        cases e
  | some m1 =>
    rw [h1] at hm
    obtain ⟨m64, mh, mm⟩ := hm
    obtain ⟨q1, hq1, hs1⟩ := (hh m1 m64).mp mh
    cases h2 : W.foldl (guS gs.length n gs) none with
    | none =>
      rw [h2] at hc
      rw [hc.1] at hq1
      cases hq1
    | some m2 =>
      rw [h2] at hc
      obtain ⟨c1, -, c3⟩ := hc
      rcases c1 with h | ⟨q2, hq2, rfl⟩
      · cases h
      · have a1 := mm _ (h64 q2) (hself q2 hq2)
        have a2 : lessV m1 (sayG n q2 gs 0) = false := by
          rcases less_sub (h64 q1) m64 hs1 with e | e
          · rw [← e]; exact c3 q1 hq1
          · have := mm _ (h64 q1) (hself q1 hq1)
            rw [this] at e
            cases e
        rw [less_tri m64 (h64 q2) a2 a1]

