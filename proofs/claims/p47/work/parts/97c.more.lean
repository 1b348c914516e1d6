/-! pure: mid, struck, off, a fourth, lots -/
theorem ch_mid {r p : Nat} {w : sm_Mem} {B : HBase} {ds : List Deed} {ws : List Nat} (hh : RHs w B ds) (h0 : 0 < B.1) (hr : r < 6) (hp12 : p ≤ 12) (h : RowW w r ws) (hl : ws.length ≤ 5) (hA : sumN (gainV 0 B.1 p (glOf ws) (playV B ds).1) (2 ^ B.1) < 2147483648) : ∃ w1, ff_ho_mid (u32 r) (u32 p) w = some (.int (u32 1), w1) ∧ RHs w1 B ds ∧ AFr w w1 ∧ w1.2 60 1 = u64 (sumN (gainV 0 B.1 p (glOf ws) (playV B ds).1) (2 ^ B.1) / Nat.gcd (sumN (gainV 0 B.1 p (glOf ws) (playV B ds).1) (2 ^ B.1)) (12 ^ B.1)) ∧ w1.2 60 2 = u64 (12 ^ B.1 / Nat.gcd (sumN (gainV 0 B.1 p (glOf ws) (playV B ds).1) (2 ^ B.1)) (12 ^ B.1)) := by
  refine silent_class (fl := 0) (wf := ff_wy_weightOfWords) (fun a1 a2 w => ?_) (fun hn h6 hp h5 hw hL hA => ?_) hh h0 hr hp12 h hl hA
  · unfold ff_ho_mid
    rfl
  · obtain ⟨w1, a1, a2, a3, a4⟩ := wy_spread hn h6 hw hA
    refine ⟨w1, ?_, a3, a4⟩
    unfold ff_wy_weightOfWords ff_wy_weightOfWords_9
    rw [a1, cV_, sm_N_eq]
    exact wy_words_sum h6 hp h5 (by rw [a3 36 (by decide)]; exact hw) a2 _ 0 1000000 (Nat.zero_add _) (by have := (pow_n h6).2.1; omega)
theorem ch_struck {t : Nat} {w : sm_Mem} {B : HBase} {ds : List Deed} (hh : RHs w B ds) (h0 : 0 < B.1) (ht : t < 4) : ∃ w1, ff_ho_struck (u32 t) w = some (.int (outV t (playV B ds).1), w1) ∧ RHs w1 B ds ∧ AFr w w1 ∧ w1.2 = w.2 := by
  obtain ⟨hok, hn, n1, n6⟩ := hh.n
  have cpre : ff_ho_struck (u32 t) w = (if (w.1 36 0) = u32 0 then (some (.int (-u32 4), w)) else (sm_cI (ff_ho_outcome 8 (u32 t) w) fun x1 w2 => (some (.int x1, w2)))) := by
    unfold ff_ho_struck
    simp (disch := omega) only [u32_lit, u32_lt, if_neg, u32_le, if_pos]
  have e0 : (u32 B.1 = u32 0) = False := by
    rw [u32_eq (by omega) (by omega)]
    exact eq_false (by omega)
  obtain ⟨w1, a1, a2, a3⟩ := ho_outcome t 8 (playV B ds).1 w (by omega) (by omega) hh.2.2.2.2.1.1 hok
  have hx : XFr w w1 := XFr.t (TFr.s a3) (fun a ha => a3.hi (by omega))
  refine ⟨w1, ?_, RHs_search hh a2 hx, AFr.x hx, a3.1.2.1⟩
  rw [cpre, n1]
  simp only [e0, if_false]
  rw [a1, cI_]
theorem ch_off {r : Nat} {w : sm_Mem} {B : HBase} {ds : List Deed} {ws : List Nat} (hh : RHs w B ds) (h0 : 0 < B.1) (hr : r < 6) (h : RowW w r ws) (hl : ws.length ≤ 8) : ∃ w1, ff_ho_off (u32 r) w = some (.int (u32 (dM (fun k => u32 (ordAt (hO (playV B ds).1) k).1) (fun j => w.1 (2 + 2 * r + 1) j) (hO (playV B ds).1).length ws.length)), w1) ∧ RHs w1 B ds ∧ AFr w w1 ∧ w1.2 = w.2 := by
  obtain ⟨hok, hn, n1, n6⟩ := hh.n
  have hR := isRow_row hr
  have gc := refW_ok hh h0 hr (show 8 ≤ 40 by decide) h hl
  have h8 := hok.2.2.2.1
  have hC := hh.2.2.2.2.1.1
  obtain ⟨w1, a1, a2⟩ := tr_distance (n := ws.length) (S := (hO (playV B ds).1).length) (o := fun k => u32 (ordAt (hO (playV B ds).1) k).1) (g := fun j => w.1 (2 + 2 * r + 1) j) (w := w) hR (by omega) hl h8 h.1 ⟨hC.2.2.2.1, fun k hk => (ordC_at _ k hk hC.2.2.2.2).1, fun j hj => rfl⟩
  refine ⟨w1, ?_, hh.fr (fun a h1 h2 => a2.1 a (by omega)), fun a ha => a2.1 a (by omega), a2.2⟩
  unfold ff_ho_off
  simp only [u32_lit, gc, cI_, if_true, rr_row hr, bs_, a1]
theorem ch_fourth_6 {r q : Nat} {w : sm_Mem} {B : HBase} {ds : List Deed} {ws : List Nat} (hh : RHs w B ds) (hb6 : B.1 = 6) (hr : r < 6) (hq : q < 6) (h : RowW w r ws) (hl : ws.length ≤ 5) : ff_ho_fourth (u32 r) (u32 q) w = some (.int (-u32 9), w) := by
  obtain ⟨hok, hn, n1, n6⟩ := hh.n
  have gc := refW_ok hh (show 0 < B.1 by omega) hr (show 5 ≤ 40 by decide) h hl
  unfold ff_ho_fourth
  simp (disch := omega) only [u32_lit, ho_within_good hq, u10, if_false, gc, cI_, if_true, n1, u32_lt, if_neg]
theorem ch_fourth {r q : Nat} {w : sm_Mem} {B : HBase} {ds : List Deed} {ws : List Nat} (hh : RHs w B ds) (h0 : 0 < B.1) (hb6 : B.1 < 6) (hr : r < 6) (hq : q < 6) (h : RowW w r ws) (hl : ws.length ≤ 5) : ∃ w1, RHs w1 B ds ∧ AFr w w1 ∧ w1.2 = w.2 ∧ match leastM (hasB (glOf ws) (playV B ds).1 q) 64 with
    | none => ff_ho_fourth (u32 r) (u32 q) w = some (.int (-u32 9), w1)
    | some b => ff_ho_fourth (u32 r) (u32 q) w = some (.int (u32 (popV b)), w1) ∧ w1.1 60 0 = u32 b := by
  obtain ⟨hok, hn, n1, n6⟩ := hh.n
  have gc := refW_ok hh h0 hr (show 5 ≤ 40 by decide) h hl
  have g5 : (glOf ws).length ≤ 5 := by rw [glOf_len]; exact hl
  have h6 := hok.1
  have hCH := hh.2.2.2.2.1.1
  have hgs : ∀ g, g ∈ glOf ws → g.1 < 6 := fun g hg => by
    obtain ⟨j, hj⟩ := List.getElem?_of_mem hg
    exact (h.2 j _ (glO_at hj).1).2
  have hlt : hN (playV B ds).1 < 6 := by omega
  have hRw := isRow_row hr
  obtain ⟨w1, i1, i2, i3, i4, i5, i6⟩ := hs_invite (q := q) hCH hlt
  have hokG := guestH_ok (s := 63) hok hlt hq (by omega)
  obtain ⟨w2, a1, a2, a3, a4, a5, a6⟩ := wy_runWords (w := w1) (gu := some (hN (playV B ds).1)) (gs := glOf ws) (L := (glOf ws).length) hRw (by omega) rfl g5 (by rw [i5 _ (by omega) (by omega) (by omega) (by omega) (by omega), glOf_len]; exact h.1) (fun g hg => by cases hg; exact hlt) (fun j g hj => by
    obtain ⟨e1, e2⟩ := glO_at hj
    have := h.2 j _ e1
    rw [i5 _ (by omega) (by omega) (by omega) (by omega) (by omega)]
    exact ⟨this.1, e2, this.2⟩) i2 hokG
  have e13 := (a4.2.2.2.2.2.2.2.1 _ rfl).1
  rw [← guest_least hgs] at e13
  have hle := leastM_min (hasB (glOf ws) (playV B ds).1 q) 64
  have e36 : w2.1 36 0 = u32 (hN (playV B ds).1 + 1) := by rw [a6.2.1 0 (by decide)]; exact i3
  let w3 := sm_wI w2 36 0 (u32 (hN (playV B ds).1))
  have hC3 : CH w3 (playV B ds).1 := by
    obtain ⟨k1, k2, k3, k4, k5⟩ := a2
    refine ⟨sm_wI_eq, fun i hi => ?_, ?_, ?_, ?_⟩
    · have := k2 i (Nat.lt_succ_of_lt hi)
      have ene : i ≠ hN (playV B ds).1 := by omega
      rw [show hK (guestH (playV B ds).1 q 63) i = hK (playV B ds).1 i from updN_ne ene, show hW (guestH (playV B ds).1 q 63) i = hW (playV B ds).1 i from updN_ne ene, show hR (guestH (playV B ds).1 q 63) i = hR (playV B ds).1 i from updN_ne ene, show hB (guestH (playV B ds).1 q 63) i = hB (playV B ds).1 i from updN_ne ene] at this
      show (sm_wI w2 36 0 _).1 37 i = _ ∧ (sm_wI w2 36 0 _).1 38 i = _ ∧ (sm_wI w2 36 0 _).1 41 i = _ ∧ (sm_wI w2 36 0 _).1 42 i = _
      simp (disch := omega) only [sm_wI_ne, sm_wI_nj, sm_wI_eq, sm_wA_ne, sm_wA_eq]
      exact this
    · show (sm_wI w2 36 0 _).1 36 7 = _
      rw [sm_wI_nj (by decide)]; exact k3
    · show (sm_wI w2 36 0 _).1 36 11 = _
      rw [sm_wI_nj (by decide)]; exact k4
    · exact ordC_fr _ (fun j _ => by
        show (sm_wI w2 36 0 _).1 43 j = _ ∧ (sm_wI w2 36 0 _).1 44 j = _
        simp (disch := omega) only [sm_wI_ne, sm_wI_nj, sm_wI_eq, sm_wA_ne, sm_wA_eq, and_self]) k5
  have hdis : ff_hs_dismiss w2 = some (.null, w3) := by
    unfold ff_hs_dismiss
    simp (disch := omega) only [u32_lit, e36, u32_le, if_neg, let_, u32_sub, Nat.add_sub_cancel]
    rfl
  have hclass0 : ∀ o, w3.1 49 13 = o → ff_ho_fourth (u32 r) (u32 q) w = if o = -u32 9 then some (.int (-u32 9), w3) else (sm_cI (ff_ig_bitCount o (sm_wI w3 60 0 o)) fun x13 w14 => some (.int x13, w14)) := by
    intro o ho
    have a1 : ff_wy_runWords (2 + 2 * r) (u32 (hN (playV B ds).1)) w1 = some (.null, w2) := a1
    unfold ff_ho_fourth
    simp (disch := omega) only [u32_lit, ho_within_good hq, u10, if_false, gc, cI_, if_true, n1, u32_lt, if_pos, i1, cV_, rr_row hr, bs_, i3, u32_sub, Nat.add_sub_cancel, a1, hdis, ho, let_]
    have e2 : (sm_wI w3 60 0 o).1 49 13 = o := by rw [sm_wI_ne (by decide)]; exact ho
    rw [e2]
  have e13' : w3.1 49 13 = oAns (leastM (hasB (glOf ws) (playV B ds).1 q) 64) := by
    show (sm_wI w2 36 0 _).1 49 13 = _
    rw [sm_wI_ne (by decide)]
    exact e13
  have cells : ∀ a, (a < 36 ∨ a = 39 ∨ a = 40 ∨ (44 < a ∧ a < 49) ∨ 55 < a) → w3.1 a = w.1 a := fun a ha => by
    show (sm_wI w2 36 0 _).1 a = _
    rw [sm_wI_ne (by omega), a6.1 a (by omega), i5 a (by omega) (by omega) (by omega) (by omega) (by omega)]
  have c368 : w3.1 36 8 = w.1 36 8 := by
    show (sm_wI w2 36 0 _).1 36 8 = _
    rw [sm_wI_nj (by decide), a6.2.1 8 (by decide), i4 8 (by decide)]
  have l3 : w3.2 = w.2 := by
    show w2.2 = _
    rw [a6.2.2, i6]
  have hR3 : RHs w3 B ds := by
    obtain ⟨h1, h2, h3, h4, h5, h6⟩ := hh
    refine ⟨h1, fun i hi => ?_, h3, h4, ⟨hC3, by rw [c368]; exact h5.2⟩, ⟨by rw [cells 45 (by omega)]; exact h6.1, CDl_fr ds (fun j hj => ?_) h6.2⟩⟩
    · rw [cells 39 (by omega), cells 40 (by omega)]; exact h2 i hi
    · rw [cells (45 + 1) (by omega), cells (45 + 2) (by omega), cells (45 + 3) (by omega)]; exact ⟨rfl, rfl, rfl⟩
  cases hlm : leastM (hasB (glOf ws) (playV B ds).1 q) 64 with
  | none =>
    rw [hlm] at e13'
    have hcl := hclass0 _ e13'
    rw [if_pos (show oAns none = -u32 9 from rfl)] at hcl
    exact ⟨w3, hR3, fun a ha => cells a (by omega), l3, hcl⟩
  | some b =>
    rw [hlm] at e13' hle
    have hb64 := hle.1
    have hcl := hclass0 _ e13'
    have e9 : (oAns (some b) = -u32 9) = False := u32_eq_neg (by omega) (by decide) (by decide)
    have eb : oAns (some b) = u32 b := rfl
    simp only [e9, if_false] at hcl
    rw [eb, ig_bitCount hb64, cI_] at hcl
    exact ⟨sm_wI w3 60 0 (u32 b), hR3.told (by omega), fun a ha => (sm_wI_ne (by omega)).trans (cells a (by omega)), l3, hcl, sm_wI_eq⟩
theorem lotsV_drop {B : HBase} : ∀ (m L : Nat) (ds : List Deed), (lotsV B m L ds).drop m = ds
  | 0, L, ds => rfl
  | m + 1, L, ds => by
    have h := lotsV_drop (B := B) m (L * 48271 % 2147483647) (lotStep B ds (L * 48271 % 2147483647) :: ds)
    have e : lotsV B (m + 1) L ds = lotsV B m (L * 48271 % 2147483647) (lotStep B ds (L * 48271 % 2147483647) :: ds) := rfl
    rw [e, Nat.add_comm m 1, Nat.add_comm 1 m, ← List.drop_drop, h]
    rfl
theorem ch_lots {s : Nat} {w : sm_Mem} {B : HBase} {ds : List Deed} (hh : RHs w B ds) (h0 : 0 < B.1) (hs : 1 ≤ s) (hs2 : s < 2147483647) (hl : ds.length + 3 ≤ 40) : ∃ w1, ff_ho_lots (u32 3) (u32 s) w = some (.int (u32 (hO (playV B (lotsV B 3 s ds)).1).length), w1) ∧ RHs w1 B (lotsV B 3 s ds) ∧ AFr w w1 ∧ w1.2 = w.2 := by
  obtain ⟨hok, hn, n1, n6⟩ := hh.n
  have iM1 : (2147483647 : Int64).toInt = 2147483647 := rfl
  have t1 : (u32 1).toInt = 1 := rfl
  have t3 : (u32 3).toInt = 3 := rfl
  have t20 : (u32 20).toInt = 20 := rfl
  have ts : (u32 s).toInt = s := u32_toInt (by omega)
  have h7 := hh.2.2.2.2.2
  have z0 : ¬ u32 B.1 = u32 0 := by rw [u32_eq (by omega) (by omega)]; omega
  have hle : u32 (ds.length + 3) ≤ u32 40 := by rw [u32_le (by omega) (by omega)]; exact hl
  have cpre : ff_ho_lots (u32 3) (u32 s) w = ff_ho_lots_66 (u32 3) (u32 s).toInt64 (u32 0) w := by
    unfold ff_ho_lots
    simp only [u32_lit, lg_lt, Int32.toInt_toInt64, iM1]
    simp only [Int32.lt_iff_toInt_lt, t1, t3, t20, ts]
    rw [if_neg (by omega), if_neg (by omega), if_neg (by omega), if_pos (by omega), n1, if_neg z0, h7.1, u32_add, if_pos hle]
  obtain ⟨w1, b1, b2, b3⟩ := ho_lots_loop (n := 3) h0 (by decide) 3 0 1000000 s ds w (by omega) (by omega) (by omega) hl hh
  rw [u32_64 (by omega)] at cpre
  unfold ff_ho_lots_66 at cpre
  rw [sm_N_eq, b1] at cpre
  exact ⟨w1, cpre, b2, fun a ha => b3.1 a (by omega), b3.2⟩
