/-! pure: facts on a guest, on chances, on kinds -/
theorem lpF_snoc {α : Type} {f : Nat → List α} : ∀ (m i : Nat), lpF f i (m + 1) = lpF f i m ++ f (i + m)
  | 0, i => by rw [lpF, lpF, lpF, List.append_nil]; rfl
  | m + 1, i => by rw [lpF, lpF_snoc m (i + 1), lpF, List.append_assoc, show i + 1 + m = i + (m + 1) by omega]
theorem guest_push {H : HV} {q i x : Nat} (hi : i < hN H) : pushV (guestH H q 0) i x = guestH (pushV H i x) q 0 := by
  have e : updN (updN (hB H) (hN H) 9) i (updN (hB H) (hN H) 9 i - 1) = updN (updN (hB H) i (hB H i - 1)) (hN H) 9 := by
    funext j
    have e0 : updN (hB H) (hN H) 9 i = hB H i := updN_ne (by omega)
    rw [e0]
    unfold updN
    by_cases h1 : j = i
    · rw [if_pos h1, if_neg (by omega), if_pos h1]
    · rw [if_neg h1]
      by_cases h2 : j = hN H
      · rw [if_pos h2, if_pos h2]
      · rw [if_neg h2, if_neg h2, if_neg h1]
  show ((hN H + 1, updN (hK H) (hN H) 0, updN (hW H) (hN H) 0, updN (hR H) (hN H) q, updN (updN (hB H) (hN H) 9) i (updN (hB H) (hN H) 9 i - 1), hH H, (x, i) :: hO H) : HV) = (hN H + 1, updN (hK H) (hN H) 0, updN (hW H) (hN H) 0, updN (hR H) (hN H) q, updN (updN (hB H) i (hB H i - 1)) (hN H) 9, hH H, (x, i) :: hO H)
  rw [e]
theorem guest_no {H : HV} {q x : Nat} : canV (guestH H q 0) (hN H) x = false := by
  have e1 : hK (guestH H q 0) (hN H) = 0 := updN_eq
  have e2 : hW (guestH H q 0) (hN H) = 0 := updN_eq
  unfold canV
  rw [e1, e2]
  have e3 : ableV 0 0 (hH (guestH H q 0)) (lastW (hO (guestH H q 0))) x = false := by
    show Nat.testBit 0 x = false
    exact Nat.zero_testBit x
  rw [e3, Bool.and_false]
theorem guest_can {H : HV} {q i x : Nat} (hok : HOk H) (hi : i < hN H) : canV (guestH H q 0) i x = canV H i x := by
  have e1 : hK (guestH H q 0) i = hK H i := updN_ne (by omega)
  have e2 : hW (guestH H q 0) i = hW H i := updN_ne (by omega)
  have e3 : hB (guestH H q 0) i = hB H i := updN_ne (by omega)
  have e4 : besideV (guestH H q 0) i = besideV H i := by
    have e5 : hR (guestH H q 0) i = hR H i := updN_ne (by omega)
    unfold besideV
    show (match hO H with | [] => true | p :: _ => p.2 != i && nearV (hR (guestH H q 0) p.2) (hR (guestH H q 0) i)) = _
    cases ho : hO H with
    | nil => rfl
    | cons p r =>
      have hp : p.2 < hN H := (hok.2.2.2.2 p (by rw [ho]; exact List.mem_cons_self)).2
      have e6 : hR (guestH H q 0) p.2 = hR H p.2 := updN_ne (by omega)
      dsimp only
      rw [e5, e6]
  unfold canV freeV
  rw [e1, e2, e3, e4]
  rfl
theorem guest_wys {q : Nat} : ∀ (gs : List Gl) (H : HV), HOk H → (∀ g, g ∈ gs → g.1 < 6) → (∀ g, g ∈ gs → g.2 = none) → wys 0 gs (guestH H q 0) = wys 0 gs H
  | [], _, _, _, _ => by rw [wys, wys]
  | g :: gs, H, hok, hg, hn => by
    have hg1 := hg g List.mem_cons_self
    have hg2 := hn g List.mem_cons_self
    have hs : ∀ (H' : HV) (j : Nat), stepV 0 H' j g = canV H' j g.1 := fun H' j => by
      rw [stepV_0]
      unfold roomV
      rw [hg2]
      rfl
    rw [wys, wys]
    show lpF _ 0 (hN H + 1) = _
    rw [lpF_snoc, Nat.zero_add]
    have e0 : (if stepV 0 (guestH H q 0) (hN H) g = true then (wys 0 gs (pushV (guestH H q 0) (hN H) g.1)).map (fun p => hN H :: p) else []) = [] := by
      rw [hs, guest_no]
      rfl
    rw [e0, List.append_nil]
    refine lpF_congr _ _ (fun j _ hj => ?_)
    have hj : j < hN H := by omega
    rw [hs, hs, guest_can hok hj]
    cases hc : canV H j g.1 with
    | false => rfl
    | true =>
      obtain ⟨b1, b2, -⟩ := canV_n hc
      rw [guest_push hj, guest_wys gs (pushV H j g.1) (pushV_ok hok hj hg1 b2) (fun x hx => hg x (List.mem_cons_of_mem _ hx)) (fun x hx => hn x (List.mem_cons_of_mem _ hx))]
theorem guest_has {H : HV} {q : Nat} {ws : List Nat} (hok : HOk H) (hw : ∀ x, x ∈ ws → x < 6) : hasB (glOf ws) H q 0 = true ↔ ¬ (wys 0 (glOf ws) H).length = 0 := by
  unfold hasB
  rw [guest_wys (glOf ws) H hok (fun g hg => by
    obtain ⟨x, hx, rfl⟩ := List.mem_map.mp hg
    exact hw x hx) (fun g hg => by
    obtain ⟨x, hx, rfl⟩ := List.mem_map.mp hg
    rfl)]
  cases wys 0 (glOf ws) H with
  | nil => exact ⟨fun h => (by cases h), fun h => absurd rfl h⟩
  | cons a l => exact ⟨fun _ h => (by cases h), fun _ => rfl⟩
theorem pop_zero {b : Nat} (hb : b < 64) : popV b = 0 ↔ b = 0 := by
  have key : ∀ b, b < 64 → (popV b = 0 ↔ b = 0) := by decide +kernel
  exact key b hb
theorem pop_6 (b : Nat) : popV b ≤ 6 := popV_le b
theorem least_zero {H : HV} {q : Nat} {ws : List Nat} (hok : HOk H) (hw : ∀ x, x ∈ ws → x < 6) : match leastM (hasB (glOf ws) H q) 64 with
    | none => (wys 0 (glOf ws) H).length = 0
    | some b => b < 64 ∧ (popV b = 0 ↔ ¬ (wys 0 (glOf ws) H).length = 0) := by
  have hm := leastM_min (hasB (glOf ws) H q) 64
  have hg := guest_has (q := q) hok hw
  cases hl : leastM (hasB (glOf ws) H q) 64 with
  | none =>
    rw [hl] at hm
    dsimp only
    have := hm 0 (by decide)
    rcases Nat.eq_zero_or_pos (wys 0 (glOf ws) H).length with h | h
    · exact h
    · rw [hg.mpr (by omega)] at this
      cases this
  | some b =>
    rw [hl] at hm
    obtain ⟨h1, h2, h3⟩ := hm
    refine ⟨h1, ⟨fun h => ?_, fun h => ?_⟩⟩
    · rw [(pop_zero h1).mp h] at h2
      exact hg.mp h2
    · have := h3 0 (by decide) (hg.mpr h)
      unfold lessV at this
      rw [decide_eq_false_iff_not] at this
      have e : popV 0 = 0 := by decide
      rw [e] at this
      rcases Nat.eq_zero_or_pos (popV b) with h5 | h5
      · exact h5
      · exact absurd (Or.inl h5) this
/-! chances -/
theorem stepV_less {sil : Nat} {H : HV} {i : Nat} {g : Gl} (h : stepV sil H i g = true) : stepV 0 H i g = true := by
  rw [stepV_0]
  unfold stepV at h
  rw [Bool.and_eq_true] at h
  exact h.2
theorem wys_less {sil : Nat} : ∀ (gs : List Gl) (H : HV), (wys sil gs H).length ≤ (wys 0 gs H).length
  | [], H => by rw [wys, wys]; exact Nat.le_refl _
  | g :: gs, H => by
    rw [wys, wys]
    refine lpF_lenle _ _ (fun j _ _ => ?_)
    by_cases hs : stepV sil H j g = true
    · rw [if_pos hs, if_pos (stepV_less hs), List.length_map, List.length_map]
      exact wys_less gs _
    · rw [if_neg hs]
      exact Nat.zero_le _
theorem far_less {sil : Nat} {gs : List Gl} {H : HV} : farL sil gs H 0 gs.length ≤ farL 0 gs H 0 gs.length := by
  obtain ⟨h1, h2, h3⟩ := far_spec (sil := sil) (gs := gs) (H := H)
  obtain ⟨k1, k2, k3⟩ := far_spec (sil := 0) (gs := gs) (H := H)
  rcases Nat.lt_or_ge (farL 0 gs H 0 gs.length) (farL sil gs H 0 gs.length) with h | h
  · have hz := k2 (by omega)
    have hz2 : (wys 0 (gs.take (farL sil gs H 0 gs.length)) H).length = 0 := by
      have : (gs.take (farL sil gs H 0 gs.length)).take (farL 0 gs H 0 gs.length + 1) = gs.take (farL 0 gs H 0 gs.length + 1) := by
        rw [List.take_take, Nat.min_eq_left (by omega)]
      exact wys_take_nil (by rw [this]; exact hz)
    have := wys_less (sil := sil) (gs.take (farL sil gs H 0 gs.length)) H
    omega
  · exact h
theorem far_silent {n : Nat} {gs : List Gl} {H : HV} (hn : n = hN H) (h6 : n ≤ 6) : farL (2 ^ n - 1) gs H 0 gs.length = 0 := by
  obtain ⟨h1, h2, h3⟩ := far_spec (sil := 2 ^ n - 1) (gs := gs) (H := H)
  have hb : ∀ i, i < n → (2 ^ n - 1).testBit i = true := fun i hi => by
    have key : ∀ n, n < 7 → ∀ i, i < n → (2 ^ n - 1).testBit i = true := by decide
    exact key n (by omega) i hi
  cases hg : gs with
  | nil => rfl
  | cons g r =>
    rw [← hg]
    rcases Nat.eq_zero_or_pos (farL (2 ^ n - 1) gs H 0 gs.length) with h | h
    · exact h
    · refine absurd ?_ h1
      refine wys_take_nil (k := 1) ?_
      rw [List.take_take, Nat.min_eq_left (by omega), hg]
      show (wys (2 ^ n - 1) [g] H).length = 0
      rw [wys, lpF_nil]
      · rfl
      · intro j _ hj
        have : stepV (2 ^ n - 1) H j g = false := by
          unfold stepV
          rw [hb j (by omega)]
          rfl
        rw [this]
        rfl
theorem sumN_one {f : Nat → Nat} {j : Nat} : ∀ (k : Nat), j < k → (∀ i, i < k → i ≠ j → f i = 0) → sumN f k = f j
  | 0, h, _ => absurd h (Nat.not_lt_zero _)
  | k + 1, h, hz => by
    rw [sumN]
    by_cases e : j = k
    · rw [e]
      have : sumN f k = 0 := by
        have key : ∀ m, m ≤ k → sumN f m = 0 := by
          intro m
          induction m with
          | zero => intro _; rfl
          | succ m ih =>
            intro hm
            rw [sumN, ih (by omega), hz m (by omega) (by omega)]
        exact key k (Nat.le_refl _)
      rw [this, Nat.zero_add]
    · rw [sumN_one k (by omega) (fun i hi he => hz i (by omega) he), hz k (by omega) (fun h => e h.symm), Nat.add_zero]
theorem sumN_zero {f : Nat → Nat} : ∀ (k : Nat), (∀ i, i < k → f i = 0) → sumN f k = 0
  | 0, _ => rfl
  | k + 1, h => by rw [sumN, sumN_zero k (fun i hi => h i (by omega)), h k (by omega)]
theorem wgt_ends {n : Nat} (hn : n ≤ 6) : ∀ s, s < 2 ^ n → wgt n 0 s = (if s = 2 ^ n - 1 then 12 ^ n else 0) ∧ wgt n 12 s = (if s = 0 then 12 ^ n else 0) := by
  have key : ∀ n, n < 7 → ∀ s, s < 2 ^ n → wgt n 0 s = (if s = 2 ^ n - 1 then 12 ^ n else 0) ∧ wgt n 12 s = (if s = 0 then 12 ^ n else 0) := by decide +kernel
  exact key n (by omega)
theorem odds_0 {n : Nat} {gs : List Gl} {H : HV} (hn : n ≤ 6) : sumN (gainV 1 n 0 gs H) (2 ^ n) = (if farL 0 gs H 0 gs.length = gs.length then 12 ^ n else 0) := by
  have hp : 0 < 2 ^ n := Nat.pow_pos (by decide)
  rw [sumN_one (j := 2 ^ n - 1) _ (by omega) (fun i hi he => by
    unfold gainV
    rw [(wgt_ends hn i hi).1, if_neg he]
    rw [if_pos rfl]
    exact ite_self _)]
  unfold gainV
  rw [(wgt_ends hn (2 ^ n - 1) (by omega)).1, if_pos rfl, if_pos rfl]
  show (if farL (2 ^ n - 1 - (2 ^ n - 1)) gs H 0 gs.length = gs.length then 12 ^ n else 0) = _
  rw [Nat.sub_self]
theorem mid_0 {n : Nat} {gs : List Gl} {H : HV} (hn : n ≤ 6) : sumN (gainV 0 n 0 gs H) (2 ^ n) = farL 0 gs H 0 gs.length * 12 ^ n := by
  have hp : 0 < 2 ^ n := Nat.pow_pos (by decide)
  have g0 : ∀ p s, gainV 0 n p gs H s = farL (comp n s) gs H 0 gs.length * wgt n p s := fun _ _ => rfl
  rw [sumN_one (j := 2 ^ n - 1) _ (by omega) (fun i hi he => by
    rw [g0, (wgt_ends hn i hi).1, if_neg he, Nat.mul_zero])]
  rw [g0, (wgt_ends hn (2 ^ n - 1) (by omega)).1, if_pos rfl]
  show farL (2 ^ n - 1 - (2 ^ n - 1)) gs H 0 gs.length * 12 ^ n = _
  rw [Nat.sub_self]
theorem odds_12 {n : Nat} {gs : List Gl} {H : HV} (h : n = hN H) (hn : n ≤ 6) : sumN (gainV 1 n 12 gs H) (2 ^ n) = (if gs.length = 0 then 12 ^ n else 0) := by
  have hp : 0 < 2 ^ n := Nat.pow_pos (by decide)
  rw [sumN_one (j := 0) _ hp (fun i hi he => by
    unfold gainV
    rw [(wgt_ends hn i hi).2, if_neg he]
    rw [if_pos rfl]
    exact ite_self _)]
  unfold gainV
  rw [(wgt_ends hn 0 hp).2, if_pos rfl, if_pos rfl]
  show (if farL (2 ^ n - 1 - 0) gs H 0 gs.length = gs.length then 12 ^ n else 0) = _
  rw [Nat.sub_zero, far_silent h hn]
  by_cases e : gs.length = 0
  · rw [if_pos e.symm, if_pos e]
  · rw [if_neg (fun x => e x.symm), if_neg e]
theorem odds_le {n p : Nat} {gs : List Gl} {H : HV} (hn : n ≤ 6) (hp : p ≤ 12) : sumN (gainV 1 n p gs H) (2 ^ n) ≤ 12 ^ n := by
  have := sumN_le (f := gainV 1 n p gs H) (g := wgt n p) (c := 1) (2 ^ n) (fun j hj => by
    unfold gainV
    rw [if_pos rfl, Nat.one_mul]
    split
    · exact Nat.le_refl _
    · exact Nat.zero_le _)
  rw [wgt_all hn hp, Nat.one_mul] at this
  exact this
theorem mid_le {n p : Nat} {gs : List Gl} {H : HV} (hn : n ≤ 6) (hp : p ≤ 12) : sumN (gainV 0 n p gs H) (2 ^ n) ≤ farL 0 gs H 0 gs.length * 12 ^ n := by
  have := sumN_le (f := gainV 0 n p gs H) (g := wgt n p) (c := farL 0 gs H 0 gs.length) (2 ^ n) (fun j hj => by
    show farL (comp n j) gs H 0 gs.length * wgt n p j ≤ _
    exact Nat.mul_le_mul_right _ far_less)
  rw [wgt_all hn hp] at this
  exact this
theorem odds_none {n p : Nat} {gs : List Gl} {H : HV} (h : (wys 0 gs H).length = 0) : sumN (gainV 1 n p gs H) (2 ^ n) = 0 := sumN_zero _ (fun i _ => by
  unfold gainV
  rw [if_pos rfl, if_neg]
  intro e
  have := far_less (sil := comp n i) (gs := gs) (H := H)
  have h2 := far_full.mp h
  have h3 := (far_spec (sil := 0) (gs := gs) (H := H)).2.2
  omega)
/-! kinds, the test of kinds -/
theorem setV_cnt (p : Nat → Bool) : popV (setV p) = cnt6 p := by
  unfold popV cnt6
  rw [set_bit (by decide), set_bit (by decide), set_bit (by decide), set_bit (by decide), set_bit (by decide), set_bit (by decide)]
theorem part_bounds (s a : Nat → Bool) : cnt6 s ≤ 2 * partV s a ∧ partV s a ≤ cnt6 s := by
  have t : ∀ x y : Bool, (x && y).toNat + (x && !y).toNat = x.toNat := by decide
  have t0 := t (s 0) (a 0)
  have t1 := t (s 1) (a 1)
  have t2 := t (s 2) (a 2)
  have t3 := t (s 3) (a 3)
  have t4 := t (s 4) (a 4)
  have t5 := t (s 5) (a 5)
  have e : cnt6 (fun k => s k && a k) + cnt6 (fun k => s k && !a k) = cnt6 s := by
    dsimp only [cnt6]
    omega
  unfold partV
  split <;> omega
theorem tF_least {P : Nat → Nat} : ∀ (m i : Nat) (b : Int32) (l : Nat), ((tF P i m (b, l)).1 = b ∧ (tF P i m (b, l)).2 = l) ∨ ∃ n, i ≤ n ∧ n < i + m ∧ (tF P i m (b, l)).1 = u32 (10 * (n / 6) + n % 6) ∧ (tF P i m (b, l)).2 = P n
  | 0, i, b, l => Or.inl ⟨rfl, rfl⟩
  | m + 1, i, b, l => by
    rw [tF]
    unfold tstep
    by_cases h : P i < l
    · rw [if_pos (show P i < (b, l).2 from h)]
      rcases tF_least (P := P) m (i + 1) (u32 (10 * (i / 6) + i % 6)) (P i) with ⟨h1, h2⟩ | ⟨n, h1, h2, h3, h4⟩
      · exact Or.inr ⟨i, Nat.le_refl _, by omega, h1, h2⟩
      · exact Or.inr ⟨n, by omega, by omega, h3, h4⟩
    · rw [if_neg (show ¬ P i < (b, l).2 from h)]
      rcases tF_least (P := P) m (i + 1) b l with h1 | ⟨n, h1, h2, h3, h4⟩
      · exact Or.inl h1
      · exact Or.inr ⟨n, by omega, by omega, h3, h4⟩
theorem test_spec {H : HV} {i : Nat} {s : Nat → Bool} : ∃ n, n < 42 ∧ (tF (partN H i s) 0 42 (u32 0, 7)).1 = u32 (10 * (n / 6) + n % 6) ∧ (tF (partN H i s) 0 42 (u32 0, 7)).2 = partN H i s n := by
  have h0 : partN H i s 0 < 7 := Nat.lt_succ_of_le (partV_le _ _)
  rw [show (42 : Nat) = 41 + 1 from rfl, tF]
  unfold tstep
  rw [if_pos (show partN H i s 0 < (u32 0, 7).2 from h0)]
  rcases tF_least (P := partN H i s) 41 (0 + 1) (u32 (10 * (0 / 6) + 0 % 6)) (partN H i s 0) with ⟨h1, h2⟩ | ⟨n, h1, h2, h3, h4⟩
  · exact ⟨0, by decide, h1, h2⟩
  · exact ⟨n, by omega, h3, h4⟩
