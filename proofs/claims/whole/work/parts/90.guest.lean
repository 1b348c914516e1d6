/-! pure: fourth, by both -/
theorem MH_fri {w w1 : sm_Mem} {b : Nat} {H : HV} (hok : HOk H) (h0 : w1.1 62 1 = w.1 62 1) (h4 : ∀ i, i < hN H → w1.1 64 i = w.1 64 i ∧ w1.1 65 i = w.1 65 i) (h : w1.1 63 = w.1 63) (H1 : MH w b H) : MH w1 b H := by
  obtain ⟨g1, g2, g3, g4, g5⟩ := H1
  refine ⟨by rw [h0]; exact g1, fun i hi => ?_, by rw [h]; exact g3, by rw [h]; exact g4, ordM_fr _ hok.2.2.2.1 (fun j h1 h2 => by rw [h]) g5⟩
  rw [(h4 i hi).1, (h4 i hi).2, h]
  exact g2 i hi
theorem MHX_fri {w w1 : sm_Mem} {b : Nat} {X : HX} (hok : HOk X.1) (h0 : w1.1 62 1 = w.1 62 1) (h4 : ∀ i, i < hN X.1 → w1.1 64 i = w.1 64 i ∧ w1.1 65 i = w.1 65 i) (h : w1.1 63 = w.1 63) (H1 : MHX w b X) : MHX w1 b X := ⟨MH_fri hok h0 h4 h H1.1, by rw [h]; exact H1.2⟩
theorem pastM_fri {w w1 : sm_Mem} {B : HBase} {b : Nat} (hB : BOk B) (h0 : w1.1 62 1 = w.1 62 1) (h4 : ∀ i, i < B.1 → w1.1 64 i = w.1 64 i ∧ w1.1 65 i = w.1 65 i) (h : w1.1 63 = w.1 63) : ∀ (ds : List Deed), ds.length ≤ 40 → validV B ds → pastM w B b ds → pastM w1 B b ds
  | [], _, _, _ => trivial
  | d :: r, hl, hv, hp => by
    rw [List.length_cons] at hl
    obtain ⟨k1, k2⟩ := playV_ok hB r (by omega) hv.2
    exact ⟨MHX_fri k1 h0 (by rw [k2]; exact h4) h hp.1, pastM_fri hB h0 h4 h r (by omega) hv.2 hp.2⟩
theorem MKept_fri {w w1 : sm_Mem} {B : HBase} {b : Nat} {ds : List Deed} (hB : BOk B) (hl : ds.length ≤ 40) (hv : validV B ds) (h0 : w1.1 62 1 = w.1 62 1) (h4 : ∀ i, i < B.1 → w1.1 64 i = w.1 64 i ∧ w1.1 65 i = w.1 65 i) (h : w1.1 63 = w.1 63) (H : MKept w B b ds) : MKept w1 B b ds := by
  obtain ⟨k1, k2⟩ := playV_ok hB ds hl hv
  exact ⟨by rw [h]; exact H.1, MHX_fri k1 h0 (by rw [k2]; exact h4) h H.2.1, pastM_fri hB h0 h4 h ds hl hv H.2.2⟩
theorem RHs_guest {w w1 : sm_Mem} {B : HBase} {ds : List Deed} (H : RHs w B ds) (hC : CH w1 (playV B ds).1) (h : ∀ a, ((24 ≤ a ∧ a < 36) ∨ a = 39 ∨ a = 40 ∨ (44 < a ∧ a < 49) ∨ a = 63 ∨ a = 66) → w1.1 a = w.1 a) (h36 : w1.1 36 8 = w.1 36 8) (h0 : w1.1 62 1 = w.1 62 1) (h4 : ∀ i, i < B.1 → w1.1 64 i = w.1 64 i ∧ w1.1 65 i = w.1 65 i) : RHs w1 B ds := by
  obtain ⟨h1, h2, h3, h4', h5, h6, h7, h8, h9⟩ := H
  have e63 := h 63 (by omega)
  refine ⟨h1, fun i hi => ?_, fun i hi => ?_, h4', h5, ⟨hC, ?_⟩, ⟨?_, CDl_fr ds (fun j hj => ?_) h7.2⟩, MKept_fri h1 h4' h5 h0 h4 e63 h8, fun k hk => ?_⟩
  · rw [h 39 (by omega), h 40 (by omega)]; exact h2 i hi
  · rw [h 66 (by omega)]; exact h3 i hi
  · rw [h36]; exact h6.2
  · rw [h 45 (by omega)]; exact h7.1
  · rw [h (45 + 1) (by omega), h (45 + 2) (by omega), h (45 + 3) (by omega)]; exact ⟨rfl, rfl, rfl⟩
  · rcases h9 k hk with ⟨a1, a2⟩ | ⟨l, a1, a2, a3, a4⟩
    · exact Or.inl ⟨by rw [h _ (by omega)]; exact a1, by rw [e63]; exact a2⟩
    · refine Or.inr ⟨l, a1, a2, ⟨by rw [h _ (by omega)]; exact a3.1, CDl_fr l (fun j hj => ?_) a3.2⟩, MKept_fri h1 a1 a2 h0 h4 e63 a4⟩
      rw [h (24 + 4 * k + 1) (by omega), h (24 + 4 * k + 2) (by omega), h (24 + 4 * k + 3) (by omega)]
      exact ⟨rfl, rfl, rfl⟩
theorem hs_invite {H : HV} {w : sm_Mem} {q : Nat} (hC : CH w H) (hn : hN H < 6) : ∃ w1, ff_hs_invite (u32 q) w = some (.null, w1) ∧ CH w1 (guestH H q 63) ∧ w1.1 36 0 = u32 (hN H + 1) ∧ (∀ j, j ≠ 0 → w1.1 36 j = w.1 36 j) ∧ (∀ a, a ≠ 36 → a ≠ 37 → a ≠ 38 → a ≠ 41 → a ≠ 42 → w1.1 a = w.1 a) ∧ w1.2 = w.2 := by
  obtain ⟨c1, c2, c3, c4, c5⟩ := hC
  refine ⟨sm_wI (sm_wI (sm_wI (sm_wI (sm_wI w 37 (hN H) (u32 0)) 38 (hN H) (u32 63)) 41 (hN H) (u32 q)) 42 (hN H) (u32 9)) 36 0 (u32 (hN H + 1)), ?_, ⟨sm_wI_eq, fun i hi => ?_, ?_, ?_, ?_⟩, sm_wI_eq, fun j hj => ?_, fun a h1 h2 h3 h4 h5 => ?_, rfl⟩
  · unfold ff_hs_invite
    simp (disch := omega) only [u32_lit, c1, u32_lt, if_pos, sm_wr_u, bs_, sm_wI_ne, sm_wI_nj, sm_wI_eq, sm_wA_ne, sm_wA_eq, let_, u32_add]
  · have hi : i < hN H + 1 := hi
    show _ = u32 (updN (hK H) (hN H) 0 i) ∧ _ = u32 (updN (hW H) (hN H) 63 i) ∧ _ = u32 (updN (hR H) (hN H) q i) ∧ _ = u32 (updN (hB H) (hN H) 9 i)
    by_cases e : i = hN H
    · rw [e, updN_eq, updN_eq, updN_eq, updN_eq]
      simp (disch := omega) only [sm_wI_ne, sm_wI_nj, sm_wI_eq, sm_wA_ne, sm_wA_eq, and_self]
    · rw [updN_ne e, updN_ne e, updN_ne e, updN_ne e]
      simp (disch := omega) only [sm_wI_ne, sm_wI_nj, sm_wI_eq, sm_wA_ne, sm_wA_eq]
      exact c2 i (by omega)
  · simp (disch := omega) only [sm_wI_ne, sm_wI_nj, sm_wI_eq, sm_wA_ne, sm_wA_eq]; exact c3
  · simp (disch := omega) only [sm_wI_ne, sm_wI_nj, sm_wI_eq, sm_wA_ne, sm_wA_eq]; exact c4
  · refine ordC_fr _ (fun j _ => ?_) c5
    simp (disch := omega) only [sm_wI_ne, sm_wI_nj, sm_wI_eq, sm_wA_ne, sm_wA_eq, and_self]
  · simp (disch := omega) only [sm_wI_ne, sm_wI_nj, sm_wI_eq, sm_wA_ne, sm_wA_eq]
  · simp (disch := omega) only [sm_wI_ne, sm_wI_nj, sm_wI_eq, sm_wA_ne, sm_wA_eq]
theorem mo_guest {w : sm_Mem} {gs : List Gl} {H : HV} {q s : Nat} (hS : Srch w gs H 0) (hn : hN H < 6) (h62 : w.1 62 1 = u32 (hN H)) (hq : q < 6) (hs : s < 64) {w1 : sm_Mem} (h22 : w1.1 62 22 = u32 (hN H + 1)) (h24 : w1.1 62 24 = u32 q) (h1 : ∀ j, j = 1 ∨ j = 21 ∨ j = 23 → w1.1 62 j = w.1 62 j) (h64 : w1.1 64 (hN H) = u32 0 ∧ ∀ i, i < hN H → w1.1 64 i = w.1 64 i) (h65 : w1.1 65 (hN H) = u32 s ∧ ∀ i, i < hN H → w1.1 65 i = w.1 65 i) (ha : ∀ a, a = 63 ∨ a = 73 ∨ a = 74 → w1.1 a = w.1 a) : Srch w1 gs (guestH H q s) 0 := by
  obtain ⟨a1, a2, a3, a4, a5, a6, a7, n, b1, b2, b3, b4, b5, b6, b7, b8, b9⟩ := hS
  have en : n = hN H := by
    rw [h62] at b1
    have := a6.1
    rw [u32_eq (by omega) (by omega)] at b1
    exact b1.symm
  subst en
  refine ⟨a1, by rw [h1 21 (by omega)]; exact a2, h22, by rw [h1 23 (by omega)]; exact a4, a5, guestH_ok a6 hn hq hs, by rw [ha 73 (by omega), ha 74 (by omega)]; exact a7, hN H, by rw [h1 1 (by omega)]; exact h62, Nat.le_succ _, Nat.le_refl _, fun i hi => ?_, fun i hi => ?_, fun _ => ⟨?_, updN_eq⟩, ?_, ?_, ?_⟩
  · have hi : i < hN H + 1 := hi
    show _ = u32 (updN (hK H) (hN H) 0 i) ∧ _ = u32 (updN (hW H) (hN H) s i)
    by_cases e : i = hN H
    · rw [e, updN_eq, updN_eq]
      exact ⟨h64.1, h65.1⟩
    · rw [updN_ne e, updN_ne e, h64.2 i (by omega), h65.2 i (by omega)]
      exact b4 i (by omega)
  · show _ = u32 (updN (hR H) (hN H) q i) ∧ _ = u32 (updN (hB H) (hN H) 9 i)
    rw [updN_ne (by omega), updN_ne (by omega), ha 63 (by omega)]
    exact b5 i hi
  · show _ = u32 (updN (hR H) (hN H) q (hN H))
    rw [updN_eq]
    exact h24
  · rw [ha 63 (by omega)]; exact b7
  · rw [ha 63 (by omega)]; exact b8
  · exact ordM_fr _ a6.2.2.2.1 (fun j _ _ => by rw [ha 63 (by omega)]) b9
/-- what the loop over the sets leaves -/
def UFr (n : Nat) (w w1 : sm_Mem) : Prop := (∀ a, a ≠ 62 → a ≠ 65 → a ≠ 75 → a ≠ 76 → w1.1 a = w.1 a) ∧ (∀ j, j ≠ 27 → w1.1 62 j = w.1 62 j) ∧ (∀ i, i ≠ n → w1.1 65 i = w.1 65 i) ∧ w1.2 = w.2
theorem UFr.trans {n : Nat} {w w1 w2 : sm_Mem} (h1 : UFr n w w1) (h2 : UFr n w1 w2) : UFr n w w2 := ⟨fun a x y z t => (h2.1 a x y z t).trans (h1.1 a x y z t), fun j hj => (h2.2.1 j hj).trans (h1.2.1 j hj), fun i hi => (h2.2.2.1 i hi).trans (h1.2.2.1 i hi), h2.2.2.2.trans h1.2.2.2⟩
theorem UFr.n {n : Nat} {w w1 : sm_Mem} (h : NFr w w1) : UFr n w w1 := ⟨fun a x _ y z => h.1 a x y z, h.2.1, fun i _ => by rw [h.1 65 (by decide) (by decide) (by decide)], h.2.2⟩
theorem UFr.w {n : Nat} {w : sm_Mem} {x : Int32} : UFr n w (sm_wI w 65 n x) := ⟨fun a _ h _ _ => sm_wI_ne h, fun j _ => by rw [sm_wI_ne (by decide)], fun i hi => sm_wI_nj hi, rfl⟩
def hasB (gs : List Gl) (H : HV) (q s : Nat) : Bool := !(wys 0 gs (guestH H q s)).isEmpty
theorem mo_fourth_loop {gs : List Gl} {H : HV} {q : Nat} (hn : hN H < 6) : ∀ (m s F : Nat) (w : sm_Mem), s + m = 64 → m < F → w.1 62 1 = u32 (hN H) → (∀ s, s < 64 → Srch (sm_wI w 65 (hN H) (u32 s)) gs (guestH H q s) 0) → ∃ w1, ff_mo_fourth_78_f F (oAns (leastM (hasB gs H q) s)) (u32 s) w = (match leastM (hasB gs H q) 64 with
    | none => some (.int (-u32 9), w1)
    | some b => some (.int (u32 (popV b)), sm_wI w1 62 9 (u32 b))) ∧ UFr (hN H) w w1 := by
  intro m
  induction m with
  | zero =>
    intro s F w hm hF h62 hS
    obtain ⟨F, rfl⟩ : ∃ G, F = G + 1 := ⟨F - 1, by omega⟩
    have hs : s = 64 := by omega
    subst hs
    refine ⟨w, ?_, ⟨fun _ _ _ _ _ => rfl, fun _ _ => rfl, fun _ _ => rfl, rfl⟩⟩
    rw [ff_mo_fourth_78_f]
    unfold ff_mo_fourth_78_b
    have hl := leastM_min (hasB gs H q) 64
    cases ho : leastM (hasB gs H q) 64 with
    | none =>
      have e9 : (oAns none = -u32 9) = True := eq_true rfl
      simp only [u32_lit, u32_le (show 64 < 2147483648 by omega) (show 64 < 2147483648 by omega), Nat.le_refl, if_true, e9]
    | some b =>
      rw [ho] at hl
      have hb := hl.1
      have e9 : (u32 b = -u32 9) = False := u32_eq_neg (by omega) (by decide) (by decide)
      have eb : oAns (some b) = u32 b := rfl
      simp only [u32_lit, u32_le (show 64 < 2147483648 by omega) (show 64 < 2147483648 by omega), Nat.le_refl, if_true, e9, if_false, eb, let_, mo_bits hb, cI_]
  | succ m ih =>
    intro s F w hm hF h62 hS
    obtain ⟨F, rfl⟩ : ∃ G, F = G + 1 := ⟨F - 1, by omega⟩
    have hs : s < 64 := by omega
    have hl := leastM_min (hasB gs H q) s
    obtain ⟨w1, a1, a2⟩ := mo_hasWay (hS s hs)
    have e116 : ∀ o, ff_mo_fourth_116 (ff_mo_fourth_78_f F) (oAns o) (u32 s) (sm_wI w 65 (hN H) (u32 s)) = ff_mo_fourth_78_f F (if hasB gs H q s = true then u32 s else oAns o) (u32 (s + 1)) w1 := by
      intro o
      unfold ff_mo_fourth_116 ff_mo_fourth_127 ff_mo_fourth_128
      rw [a1]
      simp only [u32_lit, cI_, u32_bool_eq0, u32_add, u10, if_false, if_true]
      unfold hasB
      cases (!(wys 0 gs (guestH H q s)).isEmpty) <;> rfl
    have hfr : UFr (hN H) w w1 := UFr.w.trans (UFr.n a2)
    have hS1 : ∀ s, s < 64 → Srch (sm_wI w1 65 (hN H) (u32 s)) gs (guestH H q s) 0 := by
      intro s2 hs2
      refine (hS s2 hs2).fr (fun j hj => ?_) (fun a ha => ?_)
      · rw [sm_wI_ne (by decide), sm_wI_ne (by decide), hfr.2.1 j (by omega)]
      · by_cases e : a = 65
        · subst e
          funext i
          by_cases ei : i = hN H
          · subst ei; rw [sm_wI_eq, sm_wI_eq]
          · rw [sm_wI_nj ei, sm_wI_nj ei, hfr.2.2.1 i ei]
        · rw [sm_wI_ne e, sm_wI_ne e, hfr.1 a (by omega) e (by omega) (by omega)]
    have h621 : w1.1 62 1 = u32 (hN H) := by rw [hfr.2.1 1 (by decide)]; exact h62
    have step : ∀ x, ff_mo_fourth_78_f (F + 1) (oAns (leastM (hasB gs H q) s)) (u32 s) w = x ↔ (match leastM (hasB gs H q) s with
      | none => ff_mo_fourth_116 (ff_mo_fourth_78_f F) (oAns none) (u32 s) (sm_wI w 65 (hN H) (u32 s))
      | some b => if popV b ≤ popV s then ff_mo_fourth_78_f F (u32 b) (u32 (s + 1)) (sm_wI w 65 (hN H) (u32 s)) else ff_mo_fourth_116 (ff_mo_fourth_78_f F) (oAns (some b)) (u32 s) (sm_wI w 65 (hN H) (u32 s))) = x := by
      intro x
      rw [ff_mo_fourth_78_f]
      unfold ff_mo_fourth_78_b
      have hl64 : (u32 64 ≤ u32 s) = False := by
        rw [u32_le (by omega) (by omega)]
        exact eq_false (by omega)
      simp only [u32_lit, hl64, if_false, h62, sm_wr_u (show hN H < 7 by omega) (show 7 ≤ 2147483648 by omega), bs_]
      cases ho : leastM (hasB gs H q) s with
      | none =>
        have e9 : (oAns none = -u32 9) = True := eq_true rfl
        simp only [e9, if_true]
      | some b =>
        rw [ho] at hl
        have hb : b < 64 := by have := hl.1; omega
        have p1 := popV_le b
        have p2 := popV_le s
        have e9 : (u32 b = -u32 9) = False := u32_eq_neg (by omega) (by decide) (by decide)
        have eb : oAns (some b) = u32 b := rfl
        have ele : (u32 (popV b) ≤ u32 (popV s)) = (popV b ≤ popV s) := u32_le (by omega) (by omega)
        simp only [e9, if_false, eb, mo_bits hs, mo_bits hb, cI_, ele]
        unfold ff_mo_fourth_127 ff_mo_fourth_128
        simp only [u32_lit, u32_add, if_true]
    cases ho : leastM (hasB gs H q) s with
    | none =>
      rw [ho] at step
      obtain ⟨w2, b1, b2⟩ := ih (s + 1) F w1 (by omega) (by omega) h621 hS1
      refine ⟨w2, (step _).mpr ?_, hfr.trans b2⟩
      rw [← b1, leastM, ho]
      show ff_mo_fourth_116 _ _ _ _ = _
      rw [e116]
      dsimp only
      cases hasB gs H q s <;> rfl
    | some b =>
      rw [ho] at step
      by_cases hp : popV b ≤ popV s
      · obtain ⟨w2, b1, b2⟩ := ih (s + 1) F (sm_wI w 65 (hN H) (u32 s)) (by omega) (by omega) (by rw [sm_wI_ne (by decide)]; exact h62) (fun s2 hs2 => by rw [sm_wI_wI]; exact hS s2 hs2)
        refine ⟨w2, (step _).mpr ?_, UFr.w.trans b2⟩
        rw [← b1, leastM, ho]
        dsimp only
        rw [if_pos hp, if_neg (fun h => by omega)]
        rfl
      · obtain ⟨w2, b1, b2⟩ := ih (s + 1) F w1 (by omega) (by omega) h621 hS1
        refine ⟨w2, (step _).mpr ?_, hfr.trans b2⟩
        rw [← b1, leastM, ho]
        dsimp only
        rw [if_neg hp, e116]
        have hp2 : popV s < popV b := by omega
        cases hasB gs H q s with
        | true => rw [if_pos rfl, if_pos ⟨hp2, rfl⟩]; rfl
        | false => rw [if_neg (by decide), if_neg (fun h => by cases h.2)]
theorem guV_wys {n : Nat} {gs : List Gl} {H : HV} : guV gs.length n gs (tre 0 gs H) = (wys 0 gs H).foldl (guS gs.length n gs) none := by
  unfold guV
  rw [foldV (fun o p h => by unfold guS; rw [if_neg h]), tre_wys]
theorem guest_least {gs : List Gl} {H : HV} {q : Nat} (hg : ∀ g, g ∈ gs → g.1 < 6) : leastM (hasB gs H q) 64 = guV gs.length (hN H) gs (tre 0 gs (guestH H q 63)) := by
  rw [guV_wys]
  refine least_same (fun p hp => (wys_each gs _ p hp).1) hg (fun s hs => ?_)
  have hl : LikeN (hN H) s (guestH H q 63) (guestH H q s) := by
    refine ⟨rfl, rfl, rfl, rfl, rfl, rfl, fun i hi => ?_, updN_eq, updN_eq, updN_eq⟩
    show updN (hW H) (hN H) s i = updN (hW H) (hN H) 63 i
    rw [updN_ne hi, updN_ne hi]
  rw [hasS_iff hl hg]
  unfold hasB
  cases wys 0 gs (guestH H q s) with
  | nil => exact ⟨fun h => (by cases h), fun h => absurd rfl h⟩
  | cons p l => exact ⟨fun _ h => (by cases h), fun _ => rfl⟩
theorem op_fourth {r q : Int32} {w : sm_Mem} (h : R w) : Both (ff_ho_fourth r q) (ff_mo_fourth r q) R w := by
  obtain ⟨hc, B, ds, hh⟩ := id h
  obtain ⟨hok, hn, n1, n2, n6⟩ := hh.n
  have in_bad : ∀ {x : Int32} {w0 : sm_Mem}, aBad x 6 → ff_mo_in x.toInt64 0 5 w0 = some (.int (u32 0), w0) := fun hb => mo_in_bad hb rfl
  have in_good : ∀ {k : Nat} {w0 : sm_Mem}, k < 6 → ff_mo_in (u32 k).toInt64 0 5 w0 = some (.int (u32 1), w0) := fun hb => mo_in_good hb (by decide) rfl
  rcases aCases q 6 with hq | ⟨q, hq, -, rfl⟩
  · refine BothR_same h (-u32 1) ?_ ?_
    · unfold ff_ho_fourth
      simp (disch := omega) only [u32_lit, let_, bs_, cI_, cV_, cL_, sm_rd_u, sm_wr_u, u32_add, u32_mul, u32_sub, u32_le, u32_lt, u32_eq, u32_eq_neg, u32_neg_eq, u32_neg_neg, u32_le_neg, u32_neg_lt, u32_lt_neg, u32_neg_le, u10, u01, u3n0, u1n0, u4n0, n9_lt, n1_lt, n9_neg, n1_neg, if_true, if_false, if_pos, if_neg, ne_eq, not_true_eq_false, not_false_eq_true, ho_within_bad hq]
    · unfold ff_mo_fourth
      rcases aCases r 6 with hr | ⟨r, hr, -, rfl⟩
      · simp (disch := omega) only [u32_lit, let_, bs_, cI_, cV_, cL_, sm_rd_u, sm_wr_u, u32_add, u32_mul, u32_sub, u32_le, u32_lt, u32_eq, u32_eq_neg, u32_neg_eq, u32_neg_neg, u32_le_neg, u32_neg_lt, u32_lt_neg, u32_neg_le, u10, u01, u3n0, u1n0, u4n0, n9_lt, n1_lt, n9_neg, n1_neg, if_true, if_false, if_pos, if_neg, ne_eq, not_true_eq_false, not_false_eq_true, mo_isRow_bad hr]
      · rw [mo_isRow_good hr, cI_, if_neg (by decide), in_bad hq, cI_, if_pos (show u32 0 = (0 : Int32) from rfl)]
        rfl
  rcases aCases r 6 with hr | ⟨r, hr, -, rfl⟩
  · refine BothR_same h (-u32 1) ?_ ?_
    · unfold ff_ho_fourth ff_ho_refusalOfWords
      simp (disch := omega) only [u32_lit, let_, bs_, cI_, cV_, cL_, sm_rd_u, sm_wr_u, u32_add, u32_mul, u32_sub, u32_le, u32_lt, u32_eq, u32_eq_neg, u32_neg_eq, u32_neg_neg, u32_le_neg, u32_neg_lt, u32_lt_neg, u32_neg_le, u10, u01, u3n0, u1n0, u4n0, n9_lt, n1_lt, n9_neg, n1_neg, if_true, if_false, if_pos, if_neg, ne_eq, not_true_eq_false, not_false_eq_true, ho_within_good hq, ho_within_bad hr]
    · unfold ff_mo_fourth
      simp (disch := omega) only [u32_lit, let_, bs_, cI_, cV_, cL_, sm_rd_u, sm_wr_u, u32_add, u32_mul, u32_sub, u32_le, u32_lt, u32_eq, u32_eq_neg, u32_neg_eq, u32_neg_neg, u32_le_neg, u32_neg_lt, u32_lt_neg, u32_neg_le, u10, u01, u3n0, u1n0, u4n0, n9_lt, n1_lt, n9_neg, n1_neg, if_true, if_false, if_pos, if_neg, ne_eq, not_true_eq_false, not_false_eq_true, mo_isRow_bad hr]
  have hm1 : ∀ w0, ff_mo_isRow (u32 r) w0 = some (.int (u32 1), w0) := fun w0 => mo_isRow_good hr
  have hm2 : ∀ w0, ff_mo_in (u32 q).toInt64 0 5 w0 = some (.int (u32 1), w0) := fun w0 => in_good hq
  have mpre : ∀ w0, ff_mo_fourth (u32 r) (u32 q) w0 = sm_cI (ff_mo_noGoal (u32 r) (u32 1) w0) fun x15 w16 => if x15 = u32 0 then (if (w16.1 62 1) = u32 6 then (some (.int (-u32 9), w16)) else (sm_let (sm_wI w16 62 22 ((w16.1 62 1) + u32 1)) fun w17 => (sm_let (sm_wI w17 62 24 (u32 q)) fun w18 => (Option.bind (sm_wr w18 64 7 (w18.1 62 1) (u32 0)) fun w19 => ff_mo_fourth_78 (-u32 9) (u32 0) w19)))) else (some (.int x15, w16)) := by
    intro w0
    unfold ff_mo_fourth
    rw [hm1, cI_, if_neg (by decide), hm2, cI_, if_neg (by decide)]
    rfl
  rcases BothR_goal (ca := ff_ho_fourth (u32 r) (u32 q)) (ma := ff_mo_fourth (u32 r) (u32 q)) h (fun v w1 e hv => by
    unfold ff_ho_fourth
    simp (disch := omega) only [u32_lit, ho_within_good hq, e, cI_, if_neg hv, u10, if_false]) (fun w0 v w1 e hv _ => by
    rw [mpre, e, cI_, if_neg hv]) (goal_words hc hh hr) with ⟨gs, g5, gc, gsz, gat, gm⟩ | hb
  · have h6 := hok.1
    have hCH := hh.2.2.2.2.2.1.1
    have hgs : ∀ g, g ∈ gs → g.1 < 6 := fun g hg => by
      obtain ⟨j, hj⟩ := List.getElem?_of_mem hg
      exact (gat j g hj).2.2.2.1
    by_cases hb6 : B.1 = 6
    · have hclass : ff_ho_fourth (u32 r) (u32 q) w = some (.int (-u32 9), w) := by
        unfold ff_ho_fourth
        simp (disch := omega) only [u32_lit, ho_within_good hq, u10, if_false, gc, cI_, if_true, n1, u32_lt, if_neg]
      obtain ⟨w1, b1, b2, b3⟩ := gm w (fun _ _ _ => rfl)
      have hmodel : ff_mo_fourth (u32 r) (u32 q) w = some (.int (-u32 9), w1) := by
        rw [mpre, b1, cI_, if_pos rfl, b3.2.1 1 (by decide) (by decide) (by decide), n2, hb6, if_pos rfl]
      refine Both_mk _ _ _ hclass hmodel (R_done hc hh XFr.refl hCH (MFr.l b3) ?_ ?_ ?_)
      · rw [b3.2.1 9 (by decide) (by decide) (by decide)]; exact hc.2.2.1
      · rw [b3.2.2]; exact hc.2.2.2.1
      · rw [b3.2.2]; exact hc.2.2.2.2.1
    · have hlt : hN (playV B ds).1 < 6 := by omega
      have hRw := isRow_row hr
      obtain ⟨w1, i1, i2, i3, i4, i5, i6⟩ := hs_invite (q := q) hCH hlt
      have hokG := guestH_ok (s := 63) hok hlt hq (by omega)
      obtain ⟨w2, a1, a2, a3, a4, a5, a6⟩ := wy_runWords (w := w1) (gu := some (hN (playV B ds).1)) (gs := gs) (L := gs.length) hRw (by omega) rfl g5 (by rw [i5 _ (by omega) (by omega) (by omega) (by omega) (by omega), gsz, Nat.one_mul]) (fun g hg => by cases hg; exact hlt) (fun j g hj => by
        have := gat j g hj
        rw [Nat.one_mul] at this
        rw [i5 _ (by omega) (by omega) (by omega) (by omega) (by omega)]
        exact ⟨this.1, this.2.1 rfl, this.2.2.2.1⟩) i2 hokG
      have e13 := (a4.2.2.2.2.2.2.2.1 _ rfl).1
      rw [← guest_least hgs] at e13
      have hle := leastM_min (hasB gs (playV B ds).1 q) 64
      have e36 : w2.1 36 0 = u32 (hN (playV B ds).1 + 1) := by rw [a6.2.1 0 (by decide)]; exact i3
      let w3 := sm_wI w2 36 0 (u32 (hN (playV B ds).1))
      have hC3 : CH w3 (playV B ds).1 := by
        obtain ⟨k1, k2, k3, k4, k5⟩ := a2
        refine ⟨sm_wI_eq, fun i hi => ?_, ?_, ?_, ?_⟩
        · have := k2 i (Nat.lt_succ_of_lt hi)
          have ene : i ≠ hN (playV B ds).1 := by omega
          rw [show hK (guestH (playV B ds).1 q 63) i = hK (playV B ds).1 i from updN_ne ene, show hW (guestH (playV B ds).1 q 63) i = hW (playV B ds).1 i from updN_ne ene, show hR (guestH (playV B ds).1 q 63) i = hR (playV B ds).1 i from updN_ne ene, show hB (guestH (playV B ds).1 q 63) i = hB (playV B ds).1 i from updN_ne ene] at this
          show (sm_wI w2 36 0 _).1 37 i = _ ∧ (sm_wI w2 36 0 _).1 38 i = _ ∧ (sm_wI w2 36 0 _).1 41 i = _ ∧ (sm_wI w2 36 0 _).1 42 i = _
          simp (disch := omega) only [sm_wI_ne, sm_wI_nj, sm_wI_eq, sm_wA_ne, sm_wA_eq]
          exact this
        · show (sm_wI w2 36 0 _).1 36 7 = _
          rw [sm_wI_nj (by decide)]; exact k3
        · show (sm_wI w2 36 0 _).1 36 11 = _
          rw [sm_wI_nj (by decide)]; exact k4
        · exact ordC_fr _ (fun j _ => by
            show (sm_wI w2 36 0 _).1 43 j = _ ∧ (sm_wI w2 36 0 _).1 44 j = _
            simp (disch := omega) only [sm_wI_ne, sm_wI_nj, sm_wI_eq, sm_wA_ne, sm_wA_eq, and_self]) k5
      have hdis : ff_hs_dismiss w2 = some (.null, w3) := by
        unfold ff_hs_dismiss
        simp (disch := omega) only [u32_lit, e36, u32_le, if_neg, let_, u32_sub, Nat.add_sub_cancel]
        rfl
      have hclass0 : ∀ o, w3.1 49 13 = o → ff_ho_fourth (u32 r) (u32 q) w = if o = -u32 9 then some (.int (-u32 9), w3) else (sm_cI (ff_ig_bitCount o (sm_wI w3 60 0 o)) fun x13 w14 => some (.int x13, w14)) := by
        intro o ho
        have a1 : ff_wy_runWords (2 + 2 * r) (u32 (hN (playV B ds).1)) w1 = some (.null, w2) := a1
        unfold ff_ho_fourth
        simp (disch := omega) only [u32_lit, ho_within_good hq, u10, if_false, gc, cI_, if_true, n1, u32_lt, if_pos, i1, cV_, rr_row hr, bs_, i3, u32_sub, Nat.add_sub_cancel, a1, hdis, ho, let_]
        have e2 : (sm_wI w3 60 0 o).1 49 13 = o := by rw [sm_wI_ne (by decide)]; exact ho
        rw [e2]
      have e13' : w3.1 49 13 = oAns (leastM (hasB gs (playV B ds).1 q) 64) := by
        show (sm_wI w2 36 0 _).1 49 13 = _
        rw [sm_wI_ne (by decide)]
        exact e13
      -- cells from w to w3
      have cells : ∀ a, (a < 36 ∨ a = 39 ∨ a = 40 ∨ (44 < a ∧ a < 49) ∨ 55 < a) → w3.1 a = w.1 a := fun a ha => by
        show (sm_wI w2 36 0 _).1 a = _
        rw [sm_wI_ne (by omega), a6.1 a (by omega), i5 a (by omega) (by omega) (by omega) (by omega) (by omega)]
      have c368 : w3.1 36 8 = w.1 36 8 := by
        show (sm_wI w2 36 0 _).1 36 8 = _
        rw [sm_wI_nj (by decide), a6.2.1 8 (by decide), i4 8 (by decide)]
      have l3 : w3.2 = w.2 := by
        show w2.2 = _
        rw [a6.2.2, i6]
      -- the model behind it
      have hmod : ∀ w4, (∀ a, 62 ≤ a → w4.1 a = w.1 a) → ∃ w8, ff_mo_fourth (u32 r) (u32 q) w4 = (match leastM (hasB gs (playV B ds).1 q) 64 with
          | none => some (.int (-u32 9), w8)
          | some b => some (.int (u32 (popV b)), sm_wI w8 62 9 (u32 b))) ∧ (∀ a, (a < 62 ∨ a = 63 ∨ (65 < a ∧ a < 73)) → w8.1 a = w4.1 a) ∧ (∀ i, i < B.1 → w8.1 64 i = w4.1 64 i ∧ w8.1 65 i = w4.1 65 i) ∧ (∀ j, j < 21 → w8.1 62 j = w4.1 62 j) ∧ w8.2 = w4.2 := by
        intro w4 hw4
        obtain ⟨w5, b1, b2, b3⟩ := gm w4 (fun a h1 _ => hw4 a h1)
        have e1 : w5.1 62 1 = u32 (hN (playV B ds).1) := by
          rw [b3.2.1 1 (by decide) (by decide) (by decide), hw4 62 (by omega), hn]
          exact n2
        let w7 := sm_wI (sm_wI (sm_wI w5 62 22 (u32 (hN (playV B ds).1 + 1))) 62 24 (u32 q)) 64 (hN (playV B ds).1) (u32 0)
        have c7 : ∀ a, a ≠ 62 → a ≠ 64 → w7.1 a = w5.1 a := fun a x y => by
          show (sm_wI (sm_wI (sm_wI w5 62 22 _) 62 24 _) 64 _ _).1 a = _
          rw [sm_wI_ne y, sm_wI_ne x, sm_wI_ne x]
        have c762 : ∀ j, j ≠ 22 → j ≠ 24 → w7.1 62 j = w5.1 62 j := fun j x y => by
          show (sm_wI (sm_wI (sm_wI w5 62 22 _) 62 24 _) 64 _ _).1 62 j = _
          rw [sm_wI_ne (by decide), sm_wI_nj y, sm_wI_nj x]
        have c764 : ∀ i, i ≠ hN (playV B ds).1 → w7.1 64 i = w5.1 64 i := fun i x => by
          show (sm_wI (sm_wI (sm_wI w5 62 22 _) 62 24 _) 64 _ _).1 64 i = _
          rw [sm_wI_nj x, sm_wI_ne (by decide), sm_wI_ne (by decide)]
        have hS7 : ∀ s, s < 64 → Srch (sm_wI w7 65 (hN (playV B ds).1) (u32 s)) gs (guestH (playV B ds).1 q s) 0 := by
          intro s hs
          refine mo_guest b2 hlt e1 hq hs ?_ ?_ (fun j hj => ?_) ⟨?_, fun i hi => ?_⟩ ⟨sm_wI_eq, fun i hi => ?_⟩ (fun a ha => ?_)
          · rw [sm_wI_ne (by decide)]
            show (sm_wI (sm_wI (sm_wI w5 62 22 _) 62 24 _) 64 _ _).1 62 22 = _
            simp (disch := omega) only [sm_wI_ne, sm_wI_nj, sm_wI_eq, sm_wA_ne, sm_wA_eq]
          · rw [sm_wI_ne (by decide)]
            show (sm_wI (sm_wI (sm_wI w5 62 22 _) 62 24 _) 64 _ _).1 62 24 = _
            simp (disch := omega) only [sm_wI_ne, sm_wI_nj, sm_wI_eq, sm_wA_ne, sm_wA_eq]
          · rw [sm_wI_ne (by decide), c762 j (by omega) (by omega)]
          · rw [sm_wI_ne (by decide)]
            exact sm_wI_eq
          · rw [sm_wI_ne (by decide), c764 i (by omega)]
          · rw [sm_wI_nj (by omega), c7 65 (by decide) (by decide)]
          · rw [sm_wI_ne (by omega), c7 a (by omega) (by omega)]
        obtain ⟨w8, d1, d2⟩ := mo_fourth_loop hlt 64 0 1000000 w7 (by omega) (by omega) (by rw [c762 1 (by decide) (by decide)]; exact e1) hS7
        refine ⟨w8, ?_, fun a ha => ?_, fun i hi => ⟨?_, ?_⟩, fun j hj => ?_, ?_⟩
        · have e6 : (u32 (hN (playV B ds).1) = u32 6) = False := by
            rw [u32_eq (by omega) (by omega)]
            exact eq_false (by omega)
          rw [mpre, b1, cI_, if_pos rfl, e1]
          simp only [e6, if_false, let_, u32_add]
          have e18 : (sm_wI (sm_wI w5 62 22 (u32 (hN (playV B ds).1 + 1))) 62 24 (u32 q)).1 62 1 = u32 (hN (playV B ds).1) := by
            rw [sm_wI_nj (by decide), sm_wI_nj (by decide)]
            exact e1
          rw [e18, sm_wr_u (by omega) (by omega), bs_]
          unfold ff_mo_fourth_78
          rw [sm_N_eq]
          exact d1
        · rw [d2.1 a (by omega) (by omega) (by omega) (by omega), c7 a (by omega) (by omega), b3.1 a (by omega) (by omega) (by omega)]
        · rw [d2.1 64 (by decide) (by decide) (by decide) (by decide), c764 i (by omega), b3.1 64 (by decide) (by decide) (by decide)]
        · rw [d2.2.2.1 i (by omega), c7 65 (by decide) (by decide), b3.1 65 (by decide) (by decide) (by decide)]
        · rw [d2.2.1 j (by omega), c762 j (by omega) (by omega), b3.2.1 j (by omega) (by omega) (by omega)]
        · rw [d2.2.2.2]
          show w5.2 = _
          rw [b3.2.2]
      have fin : ∀ (w4 w9 : sm_Mem), (∀ a, a ≠ 60 → w4.1 a = w3.1 a) → (∀ j, j ≠ 0 → w4.1 60 j = w3.1 60 j) → w4.2 = w3.2 → (∀ a, (a < 62 ∨ a = 63 ∨ (65 < a ∧ a < 73)) → w9.1 a = w4.1 a) → (∀ i, i < B.1 → w9.1 64 i = w4.1 64 i ∧ w9.1 65 i = w4.1 65 i) → (∀ j, j < 21 → j ≠ 9 → w9.1 62 j = w4.1 62 j) → w9.2 = w4.2 → w4.1 60 0 = w9.1 62 9 → R w9 := by
        intro w4 w9 x1 x2 x3 x4 x5 x6 x7 x8
        have same : ∀ a, (a < 36 ∨ a = 39 ∨ a = 40 ∨ (44 < a ∧ a < 49) ∨ a = 61 ∨ a = 63 ∨ (65 < a ∧ a < 73)) → w9.1 a = w.1 a := fun a ha => by
          rw [x4 a (by omega), x1 a (by omega), cells a (by omega)]
        have l9 : w9.2 = w.2 := by rw [x7, x3, l3]
        refine ⟨⟨RRows_fr (fun a ha => same a (by omega)) hc.1, RTexts_fr (fun a ha => same a (by omega)) hc.2.1, ?_⟩, B, ds, RHs_guest hh (CH_fr (fun a h1 h2 => by rw [x4 a (by omega), x1 a (by omega)]) hC3) (fun a ha => same a (by omega)) (by rw [x4 36 (by omega), x1 36 (by omega)]; exact c368) (by rw [x6 1 (by decide) (by decide), x1 62 (by decide), cells 62 (by omega)]) (fun i hi => ?_)⟩
        · obtain ⟨t1, t2, t3, t4, t5⟩ := hc.2.2
          refine ⟨by rw [x4 60 (by omega)]; exact x8, by rw [l9]; exact t2, by rw [l9]; exact t3, ?_, fun f hf => ?_⟩
          · rw [x4 60 (by omega), x2 3 (by decide), cells 60 (by omega), x6 12 (by decide) (by decide), x1 62 (by decide), cells 62 (by omega)]
            exact t4
          · rw [same 61 (by omega), same 71 (by omega)]; exact t5 f hf
        · rw [(x5 i hi).1, (x5 i hi).2, x1 64 (by decide), x1 65 (by decide), cells 64 (by omega), cells 65 (by omega)]
          exact ⟨rfl, rfl⟩
      cases hlm : leastM (hasB gs (playV B ds).1 q) 64 with
      | none =>
        rw [hlm] at e13'
        have hcl := hclass0 _ e13'
        rw [if_pos (show oAns none = -u32 9 from rfl)] at hcl
        obtain ⟨w8, m1, m2, m3, m4, m5⟩ := hmod w3 (fun a ha => cells a (by omega))
        rw [hlm] at m1
        refine Both_mk _ _ _ hcl m1 (fin w3 w8 (fun _ _ => rfl) (fun _ _ => rfl) rfl m2 m3 (fun j hj _ => m4 j hj) m5 ?_)
        rw [m4 9 (by decide), cells 60 (by omega), cells 62 (by omega)]
        exact hc.2.2.1
      | some b =>
        rw [hlm] at e13' hle
        have hb64 := hle.1
        have hcl := hclass0 _ e13'
        have e9 : (oAns (some b) = -u32 9) = False := u32_eq_neg (by omega) (by decide) (by decide)
        have eb : oAns (some b) = u32 b := rfl
        simp only [e9, if_false] at hcl
        rw [eb, ig_bitCount hb64, cI_] at hcl
        obtain ⟨w8, m1, m2, m3, m4, m5⟩ := hmod (sm_wI w3 60 0 (u32 b)) (fun a ha => by rw [sm_wI_ne (by omega)]; exact cells a (by omega))
        rw [hlm] at m1
        refine Both_mk _ _ _ hcl m1 (fin (sm_wI w3 60 0 (u32 b)) (sm_wI w8 62 9 (u32 b)) (fun a ha => sm_wI_ne ha) (fun j hj => sm_wI_nj hj) rfl (fun a ha => by rw [sm_wI_ne (by omega)]; exact m2 a ha) (fun i hi => by rw [sm_wI_ne (by decide), sm_wI_ne (by decide)]; exact m3 i hi) (fun j hj h9 => by rw [sm_wI_nj h9]; exact m4 j hj) m5 ?_)
        rw [sm_wI_eq, sm_wI_eq]
  · exact hb
