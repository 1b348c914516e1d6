/-! pure: ways, far, heard, sure, few -/
theorem wys_small {sil : Nat} {gs : List Gl} {H : HV} (h6 : hN H ≤ 6) (h5 : gs.length ≤ 5) : (wys sil gs H).length < 100000 := by
  have h1 := wys_len (sil := sil) gs H h6
  have h2 : 6 ^ gs.length ≤ 6 ^ 5 := Nat.pow_le_pow_right (by decide) h5
  have h3 : (6 : Nat) ^ 5 = 7776 := rfl
  omega
theorem wy_fullWays {L : Nat} {gs : List Gl} {gu : Option Nat} {H : HV} {w : sm_Mem} (hG : GW w L gu gs) (hA : AccD w (tre 0 gs H)) : ff_wy_fullWays w = some (.int (u32 (wys 0 gs H).length), w) := by
  obtain ⟨g1, g2, g3, -⟩ := hG
  unfold ff_wy_fullWays
  simp (disch := omega) only [g3, sm_rd_u, bs_, hA.1.1 L (by omega)]
  rw [← g1, cntV_wys]
theorem wy_inAll {L : Nat} {gs : List Gl} {gu : Option Nat} {H : HV} {w : sm_Mem} (hG : GW w L gu gs) (hA : AccD w (tre 0 gs H)) (hB : AccR w L gu gs (tre 0 gs H)) (h6 : hN H ≤ 6) : ff_wy_inAll w = some (.int (if (wys 0 gs H).length = 0 then u32 0 else u32 ((wys 0 gs H).foldl (fun a q => a &&& usedN q) 63)), w) := by
  have g1 := hG.1
  have h5 : gs.length ≤ 5 := by rw [g1]; exact hG.2.1
  have hs := wys_small (sil := 0) h6 h5
  have e10 := hB.2.2.2.1
  rw [← g1, allV_wys, all_none (fun q hq => wys_64 h6 hq)] at e10
  unfold ff_wy_inAll
  rw [wy_fullWays hG hA]
  simp (disch := omega) only [u32_lit, cI_, u32_eq]
  by_cases h0 : (wys 0 gs H).length = 0
  · rw [if_pos h0, if_pos h0]
  · rw [if_neg h0, if_neg h0, e10, if_neg (fun h => h0 (by rw [h]; rfl))]
    rfl
theorem mo_ways_loop {gs : List Gl} {H : HV} {sil : Nat} (h6 : hN H ≤ 6) : ∀ (l : List (List Nat)) (F c a : Nat) (w : sm_Mem), l.length < F → NW w gs H sil l → c + l.length < 100000 → a < 64 → w.2 62 10 = u64 c → ∃ w1, ff_mo_ways_39_f F (u32 a) w = some (.int (u32 1), w1) ∧ MFr w w1 ∧ w1.2 62 10 = u64 (c + l.length) ∧ (∀ x y, ¬ (x = 62 ∧ y = 10) → w1.2 x y = w.2 x y) ∧ w1.1 62 9 = if c + l.length = 0 then u32 0 else u32 (l.foldl (fun a q => a &&& usedN q) a) := by
  intro l
  induction l with
  | nil =>
    intro F c a w hF hN hc ha hw
    obtain ⟨F, rfl⟩ : ∃ G, F = G + 1 := ⟨F - 1, by rw [List.length_nil] at hF; omega⟩
    obtain ⟨w1, a1, a2⟩ := mo_nextWay hN
    have e2 : w1.2 = w.2 := a2.2.2
    refine ⟨sm_wI w1 62 9 (if c = 0 then u32 0 else u32 a), ?_, (MFr.n a2).trans MFr.told, by rw [sm_wI_2, e2]; exact hw, fun x y _ => by rw [sm_wI_2, e2], sm_wI_eq⟩
    rw [ff_mo_ways_39_f]
    unfold ff_mo_ways_39_b ff_mo_ways_81
    rw [a1]
    rw [List.length_nil] at hc
    simp (disch := omega) only [u32_lit, u64_lit, cI_, if_true, e2, hw, lg_eq0, u64_eq, let_]
    by_cases h0 : c = 0
    · simp only [if_pos h0]
    · simp only [if_neg h0]
  | cons q l ih =>
    intro F c a w hF hN hc ha hw
    rw [List.length_cons] at hF hc
    obtain ⟨F, rfl⟩ : ∃ G, F = G + 1 := ⟨F - 1, by omega⟩
    obtain ⟨w1, a1, a2, a3, a4⟩ := mo_nextWay hN
    have e2 : w1.2 = w.2 := a2.2.2
    have hq := a3.lt h6
    obtain ⟨w2, b1, b2, b3, b4, b5⟩ := ih F (c + 1) (a &&& usedN q) (sm_wL w1 62 10 (u64 (c + 1))) (by omega) (a4.fr (fun _ _ => rfl) (fun _ _ => rfl)) (by omega) (Nat.lt_of_le_of_lt Nat.and_le_left ha) (by rw [sm_wL_at, if_pos ⟨rfl, rfl⟩])
    refine ⟨w2, ?_, ((MFr.n a2).trans MFr.long).trans b2, by rw [b3, List.length_cons]; congr 1; omega, fun x y h => ?_, ?_⟩
    · rw [ff_mo_ways_39_f]
      unfold ff_mo_ways_39_b
      rw [a1]
      have hsp := mo_spokeIn (w := sm_wL w1 62 10 (u64 (c + 1))) (a4.1.fr (fun _ _ => rfl) (fun _ _ => rfl)) (show WYs _ gs H q from a3)
      simp (disch := omega) only [u32_lit, u64_lit, cI_, u10, if_false, e2, hw, u64_add, let_, hsp, u32_and6 ha hq]
      exact b1
    · rw [b4 x y h, sm_wL_at, if_neg h, e2]
    · rw [b5, List.length_cons, List.foldl_cons, show c + 1 + l.length = c + (l.length + 1) by omega]
theorem op_ways {r : Int32} {w : sm_Mem} (h : R w) : Both (ff_ho_ways r) (ff_mo_ways r) R w := by
  obtain ⟨hc, B, ds, hh⟩ := id h
  obtain ⟨hok, hn, n1, n2, n6⟩ := hh.n
  rcases aCases r 6 with hr | ⟨r, hr, -, rfl⟩
  · refine BothR_same h (-u32 1) ?_ ?_
    · unfold ff_ho_ways ff_ho_refusalOfWords
      simp (disch := omega) only [u32_lit, let_, bs_, cI_, cV_, cL_, sm_rd_u, sm_wr_u, u32_add, u32_mul, u32_sub, u32_le, u32_lt, u32_eq, u32_eq_neg, u32_neg_eq, u32_neg_neg, u32_le_neg, u32_neg_lt, u32_lt_neg, u32_neg_le, u10, u01, u3n0, u1n0, u4n0, n9_lt, n1_lt, n9_neg, n1_neg, if_true, if_false, if_pos, if_neg, ne_eq, not_true_eq_false, not_false_eq_true, ho_within_bad hr]
    · unfold ff_mo_ways
      simp (disch := omega) only [u32_lit, let_, bs_, cI_, cV_, cL_, sm_rd_u, sm_wr_u, u32_add, u32_mul, u32_sub, u32_le, u32_lt, u32_eq, u32_eq_neg, u32_neg_eq, u32_neg_neg, u32_le_neg, u32_neg_lt, u32_lt_neg, u32_neg_le, u10, u01, u3n0, u1n0, u4n0, n9_lt, n1_lt, n9_neg, n1_neg, if_true, if_false, if_pos, if_neg, ne_eq, not_true_eq_false, not_false_eq_true, mo_isRow_bad hr]
  have hm1 : ∀ w0, ff_mo_isRow (u32 r) w0 = some (.int (u32 1), w0) := fun w0 => mo_isRow_good hr
  rcases BothR_goal (ca := ff_ho_ways (u32 r)) (ma := ff_mo_ways (u32 r)) h (fun v w1 e hv => by
    unfold ff_ho_ways
    simp only [u32_lit, e, cI_, if_neg hv]) (fun w0 v w1 e hv _ => by
    unfold ff_mo_ways
    simp only [u32_lit, hm1, e, cI_, if_neg hv, u10, if_false]) (goal_words hc hh hr) with ⟨gs, g5, gc, gsz, gat, gm⟩ | hb
  · have hR := isRow_row hr
    obtain ⟨w1, a1, a2, a3, a4, a5, a6⟩ := wy_runWords (gu := none) (gs := gs) (L := gs.length) hR (by omega) rfl g5 (by rw [gsz, Nat.one_mul]) (fun g hg => by cases hg) (fun j g hj => by
      have := gat j g hj
      rw [Nat.one_mul] at this
      exact ⟨this.1, this.2.1 rfl, this.2.2.2.1⟩) hh.2.2.2.2.2.1.1 hok
    have h6 := hok.1
    have hs := wys_small (sil := 0) h6 g5
    let w2 := sm_wI (sm_wL (sm_wL w1 60 1 (u64 (wys 0 gs (playV B ds).1).length)) 60 2 (u64 1)) 60 0 (if (wys 0 gs (playV B ds).1).length = 0 then u32 0 else u32 ((wys 0 gs (playV B ds).1).foldl (fun a q => a &&& usedN q) 63))
    have hx : XFr w w2 := (((XFr.of a6).trans XFr.long).trans XFr.long).trans XFr.told
    have hclass : ff_ho_ways (u32 r) w = some (.int (u32 1), w2) := by
      unfold ff_ho_ways
      have e9 : oAns none = -u32 9 := rfl
      rw [e9] at a1
      simp (disch := omega) only [u32_lit, u64_lit, gc, cI_, if_true, rr_row hr, bs_, a1, cV_, wy_fullWays a5 a3, u32_64, td_share1]
      have hin := wy_inAll (w := sm_wL (sm_wL w1 60 1 (u64 (wys 0 gs (playV B ds).1).length)) 60 2 (u64 1)) a5 a3 a4 h6
      simp only [hin, cI_, let_]
      rfl
    obtain ⟨w3, b1, b2, b3⟩ := gm w2 (fun a h1 h2 => hx.1 a (by omega))
    let w4 := sm_wL (sm_wL w3 62 10 (u64 0)) 62 11 (u64 1)
    obtain ⟨w5, c1, c2, c3⟩ := mo_beginWays (w := w4) (b2.fr (fun _ _ => rfl) (fun _ _ => rfl))
    have e5 : w5.2 = w4.2 := c2.2.2
    obtain ⟨w6, d1, d2, d3, d4, d5⟩ := mo_ways_loop h6 (wys 0 gs (playV B ds).1) 1000000 0 63 w5 (by omega) c3 (by omega) (by omega) (by rw [e5]; rfl)
    have hmodel : ff_mo_ways (u32 r) w2 = some (.int (u32 1), w6) := by
      unfold ff_mo_ways ff_mo_ways_39
      simp (disch := omega) only [u32_lit, u64_lit, hm1, cI_, u10, if_false, b1, if_true, let_]
      show sm_cV (ff_mo_beginWays w4) _ = _
      rw [c1, cV_, sm_N_eq]
      exact d1
    have e3 : w3.2 = w2.2 := b3.2.2
    refine Both_mk _ w2 w6 hclass hmodel (R_done hc hh hx ?_ ((((MFr.l b3).trans MFr.long).trans MFr.long).trans ((MFr.n c2).trans d2)) ?_ ?_ ?_)
    · exact CH_fr (fun a h1 h2 => by show (sm_wI _ 60 0 _).1 a = _; rw [sm_wI_ne (by omega)]; rfl) a2
    · rw [d5, Nat.zero_add]
      exact sm_wI_eq
    · rw [d3, d4 60 1 (by decide), e5]
      show w3.2 60 1 = _
      rw [e3, Nat.zero_add]
      rfl
    · rw [d4 60 2 (by decide), d4 62 11 (by decide), e5]
      show w3.2 60 2 = _
      rw [e3]
      rfl
  · exact hb
