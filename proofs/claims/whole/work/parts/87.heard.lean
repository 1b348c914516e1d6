/-! pure: heard, sure -/
theorem mo_heard_loop {gs : List Gl} {H : HV} {sil : Nat} : ∀ (l : List (List Nat)) (F c : Nat) (o : Option Nat) (w : sm_Mem), l.length < F → NW w gs H sil l → c + l.length < 100000 → w.2 62 10 = u64 c → w.1 62 9 = oAns o → (c = 0 → o = none) → (0 < c → o = none → gs.length = 0) → ∃ w1, ff_mo_heard_42_f F w = some (.int (u32 1), w1) ∧ MFr w w1 ∧ w1.2 62 10 = u64 (c + l.length) ∧ (∀ x y, ¬ (x = 62 ∧ y = 10) → w1.2 x y = w.2 x y) ∧ w1.1 62 9 = oAns (l.foldl (openS gs.length) o) := by
  intro l
  induction l with
  | nil =>
    intro F c o w hF hN hc hw h9 h0 h1
    obtain ⟨F, rfl⟩ : ∃ G, F = G + 1 := ⟨F - 1, by rw [List.length_nil] at hF; omega⟩
    obtain ⟨w1, a1, a2⟩ := mo_nextWay hN
    have e2 : w1.2 = w.2 := a2.2.2
    refine ⟨w1, ?_, MFr.n a2, by rw [e2]; exact hw, fun x y _ => by rw [e2], by rw [a2.2.1 9 (by decide)]; exact h9⟩
    rw [ff_mo_heard_42_f]
    unfold ff_mo_heard_42_b
    rw [a1]
    simp only [u32_lit, cI_, if_true]
  | cons q l ih =>
    intro F c o w hF hN hc hw h9 h0 h1
    rw [List.length_cons] at hF hc
    obtain ⟨F, rfl⟩ : ∃ G, F = G + 1 := ⟨F - 1, by omega⟩
    have h5 := hN.1.1
    obtain ⟨w1, a1, a2, a3, a4⟩ := mo_nextWay hN
    have e2 : w1.2 = w.2 := a2.2.2
    have e9 : w1.1 62 9 = oAns o := by rw [a2.2.1 9 (by decide)]; exact h9
    have e21 := a4.1.2.1
    have ql := a3.1
    have hnew : openS gs.length o q = if c = 0 then q.head? else o := by
      unfold openS
      rw [if_pos ql]
      by_cases hc0 : c = 0
      · rw [if_pos hc0, h0 hc0]
      · rw [if_neg hc0]
        cases ho : o with
        | some _ => rfl
        | none =>
          have := h1 (by omega) ho
          have hq : q = [] := List.length_eq_zero_iff.mp (by omega)
          rw [hq]
          rfl
    obtain ⟨w2, b1, b2, b3, b4, b5⟩ := ih F (c + 1) (openS gs.length o q) (sm_wL (sm_wI w1 62 9 (oAns (openS gs.length o q))) 62 10 (u64 (c + 1))) (by omega) (a4.fr (fun j hj => sm_wI_nj (by omega)) (fun a ha => sm_wI_ne (by omega))) (by omega) (by rw [sm_wL_at, if_pos ⟨rfl, rfl⟩]) (by rw [sm_wL_1, sm_wI_eq]) (fun h => by omega) (fun _ hn => by
      rw [hnew] at hn
      by_cases hc0 : c = 0
      · rw [if_pos hc0] at hn
        cases q with
        | nil => rw [← ql]; rfl
        | cons x q => cases hn
      · rw [if_neg hc0] at hn
        exact h1 (by omega) hn)
    refine ⟨w2, ?_, (((MFr.n a2).trans MFr.told).trans MFr.long).trans b2, by rw [b3, List.length_cons]; congr 1; omega, fun x y h => ?_, ?_⟩
    · rw [ff_mo_heard_42_f]
      unfold ff_mo_heard_42_b ff_mo_heard_75 ff_mo_heard_79
      rw [a1]
      simp (disch := omega) only [u32_lit, u64_lit, cI_, u10, if_false, e2, hw, lg_eq0, u64_eq, let_, e21, u32_le, e9, sm_wI_2, u64_add]
      rw [hnew] at b1
      by_cases hc0 : c = 0
      · rw [if_pos hc0] at b1
        rw [if_pos hc0]
        by_cases hg0 : gs.length ≤ 0
        · have hq : q = [] := List.length_eq_zero_iff.mp (by omega)
          rw [hq] at b1
          rw [if_pos hg0, h0 hc0]
          exact b1
        · rw [if_neg hg0, sm_rd_u (by omega) (by omega), bs_]
          cases q with
          | nil => rw [List.length_nil] at ql; omega
          | cons x q =>
            rw [(a3.2 0 x rfl).1]
            exact b1
      · rw [if_neg hc0] at b1
        rw [if_neg hc0]
        exact b1
    · rw [b4 x y h, sm_wL_at, if_neg h, sm_wI_2, e2]
    · rw [b5, List.foldl_cons]
theorem op_heard {r : Int32} {w : sm_Mem} (h : R w) : Both (ff_ho_heard r) (ff_mo_heard r) R w := by
  obtain ⟨hc, B, ds, hh⟩ := id h
  obtain ⟨hok, hn, n1, n2, n6⟩ := hh.n
  rcases aCases r 6 with hr | ⟨r, hr, -, rfl⟩
  · refine BothR_same h (-u32 1) ?_ ?_
    · unfold ff_ho_heard ff_ho_refusalOfPairs
      simp (disch := omega) only [u32_lit, let_, bs_, cI_, cV_, cL_, sm_rd_u, sm_wr_u, u32_add, u32_mul, u32_sub, u32_le, u32_lt, u32_eq, u32_eq_neg, u32_neg_eq, u32_neg_neg, u32_le_neg, u32_neg_lt, u32_lt_neg, u32_neg_le, u10, u01, u3n0, u1n0, u4n0, n9_lt, n1_lt, n9_neg, n1_neg, if_true, if_false, if_pos, if_neg, ne_eq, not_true_eq_false, not_false_eq_true, ho_within_bad hr]
    · unfold ff_mo_heard
      simp (disch := omega) only [u32_lit, let_, bs_, cI_, cV_, cL_, sm_rd_u, sm_wr_u, u32_add, u32_mul, u32_sub, u32_le, u32_lt, u32_eq, u32_eq_neg, u32_neg_eq, u32_neg_neg, u32_le_neg, u32_neg_lt, u32_lt_neg, u32_neg_le, u10, u01, u3n0, u1n0, u4n0, n9_lt, n1_lt, n9_neg, n1_neg, if_true, if_false, if_pos, if_neg, ne_eq, not_true_eq_false, not_false_eq_true, mo_isRow_bad hr]
  have hm1 : ∀ w0, ff_mo_isRow (u32 r) w0 = some (.int (u32 1), w0) := fun w0 => mo_isRow_good hr
  rcases BothR_goal (ca := ff_ho_heard (u32 r)) (ma := ff_mo_heard (u32 r)) h (fun v w1 e hv => by
    unfold ff_ho_heard
    simp only [u32_lit, e, cI_, if_neg hv]) (fun w0 v w1 e hv _ => by
    unfold ff_mo_heard
    simp only [u32_lit, hm1, e, cI_, if_neg hv, u10, if_false]) (goal_pairs hc hh hr) with ⟨gs, g5, gc, gsz, gat, gm⟩ | hb
  · obtain ⟨w1, a1, a2, a3, a4, a5, a6⟩ := pairs_run hr g5 gsz gat hh.2.2.2.2.2.1.1 hok
    have h6 := hok.1
    have hs := wys_small (sil := 0) h6 g5
    have e9 := a4.2.2.1
    rw [openV_wys] at e9
    let w2 := sm_wI (sm_wL (sm_wL w1 60 1 (u64 (wys 0 gs (playV B ds).1).length)) 60 2 (u64 1)) 60 0 (oAns ((wys 0 gs (playV B ds).1).foldl (openS gs.length) none))
    have hx : XFr w w2 := (((XFr.of a6).trans XFr.long).trans XFr.long).trans XFr.told
    have hclass : ff_ho_heard (u32 r) w = some (.int (u32 1), w2) := by
      unfold ff_ho_heard
      simp (disch := omega) only [u32_lit, u64_lit, gc, cI_, if_true, rr_row hr, bs_, a1, cV_, wy_fullWays a5 a3, u32_64, td_share1, let_, sm_wL_1, e9]
      rfl
    obtain ⟨w3, b1, b2, b3⟩ := gm w2 (fun a h1 h2 => hx.1 a (by omega))
    let w4 := sm_wI (sm_wL (sm_wL w3 62 10 (u64 0)) 62 11 (u64 1)) 62 9 (-u32 9)
    obtain ⟨w5, c1, c2, c3⟩ := mo_beginWays (w := w4) (b2.fr (fun j hj => sm_wI_nj (by omega)) (fun a ha => sm_wI_ne (by omega)))
    have e5 : w5.2 = w4.2 := c2.2.2
    obtain ⟨w6, d1, d2, d3, d4, d5⟩ := mo_heard_loop (wys 0 gs (playV B ds).1) 1000000 0 none w5 (by omega) c3 (by omega) (by rw [e5]; rfl) (by rw [c2.2.1 9 (by decide)]; exact sm_wI_eq) (fun _ => rfl) (fun h => absurd h (Nat.lt_irrefl _))
    have hmodel : ff_mo_heard (u32 r) w2 = some (.int (u32 1), w6) := by
      unfold ff_mo_heard ff_mo_heard_42
      simp (disch := omega) only [u32_lit, u64_lit, hm1, cI_, u10, if_false, b1, if_true, let_]
      show sm_cV (ff_mo_beginWays w4) _ = _
      rw [c1, cV_, sm_N_eq]
      exact d1
    have e3 : w3.2 = w2.2 := b3.2.2
    refine Both_mk _ w2 w6 hclass hmodel (R_done hc hh hx ?_ (((((MFr.l b3).trans MFr.long).trans MFr.long).trans MFr.told).trans ((MFr.n c2).trans d2)) ?_ ?_ ?_)
    · exact CH_fr (fun a h1 h2 => by show (sm_wI _ 60 0 _).1 a = _; rw [sm_wI_ne (by omega)]; rfl) a2
    · rw [d5]
      exact sm_wI_eq
    · rw [d3, d4 60 1 (by decide), e5]
      show w3.2 60 1 = _
      rw [e3, Nat.zero_add]
      rfl
    · rw [d4 60 2 (by decide), d4 62 11 (by decide), e5]
      show w3.2 60 2 = _
      rw [e3]
      rfl
  · exact hb
/-- both refuse behind a search -/
theorem R_done_ref {f : Nat} {w w1 w3 : sm_Mem} {B : HBase} {ds : List Deed} (hc : RC w) (hh : RHs w B ds) (hx : XFr w w1) (hC : CH w1 (playV B ds).1) (hm : MFr (wcRef f w1) w3) (h9 : w3.1 62 9 = w.1 62 9) (h0 : w1.1 60 0 = w.1 60 0) (hl : w3.2 = w.2) : R (wmRef f w3) := by
  have same : ∀ a, (a < 36 ∨ (36 < a ∧ a < 42) ∨ (44 < a ∧ a < 49) ∨ (62 < a ∧ a < 71)) → (wmRef f w3).1 a = w.1 a := fun a ha => by
    rw [wmRef_ne (by omega) (by omega), hm.1 a (by omega), wcRef_ne (by omega) (by omega)]
    exact hx.1 a (by omega)
  have e1 : (wmRef f w3).1 62 1 = w.1 62 1 := by
    rw [wmRef_62 (by decide), hm.2.1, wcRef_ne (by decide) (by decide), hx.1 62 (by omega)]
  refine ⟨⟨RRows_fr (fun a ha => same a (by omega)) hc.1, RTexts_fr (fun a ha => same a (by omega)) hc.2.1, ?_⟩, B, ds, RHs_search hh (CH_fr (fun a h1 h2 => by rw [wmRef_ne (by omega) (by omega), hm.1 a (by omega), wcRef_ne (by omega) (by omega)]) hC) (fun a ha => same a (by omega)) (fun j hj => by rw [wmRef_ne (by decide) (by decide), hm.1 36 (by omega), wcRef_ne (by decide) (by decide)]; exact hx.2.1 j hj) e1⟩
  obtain ⟨t1, t2, t3, t4, t5⟩ := hc.2.2
  have l1 : (wmRef f w3).2 = w.2 := hl
  refine ⟨?_, by rw [l1]; exact t2, by rw [l1]; exact t3, ?_, fun g hg => ?_⟩
  · rw [wmRef_ne (by decide) (by decide), hm.1 60 (by omega), wcRef_60 (by decide), wmRef_62 (by decide), h9, h0]
    exact t1
  · rw [wmRef_ne (by decide) (by decide), hm.1 60 (by omega)]
    rfl
  · rw [wmRef_ne (by decide) (by decide), hm.1 61 (by omega)]
    have e71 : w3.1 71 = w.1 71 := by rw [hm.1 71 (by omega), wcRef_ne (by decide) (by decide), hx.1 71 (by omega)]
    have e61 : w1.1 61 = w.1 61 := hx.1 61 (by omega)
    show (if (61 : Nat) = 61 ∧ g = f then w1.1 61 f + u32 1 else w1.1 61 g) = (if (71 : Nat) = 71 ∧ g = f then w3.1 71 f + u32 1 else w3.1 71 g)
    rw [e71, e61]
    by_cases hgf : g = f
    · subst hgf
      simp [t5 g hg]
    · simp [hgf, t5 g hg]
theorem u32_or6 {a b : Nat} (ha : a < 64) (hb : b < 64) : u32 a ||| u32 b = u32 (a ||| b) := (u32_or ha hb).1
theorem mo_sure_loop {gs : List Gl} {H : HV} {sil : Nat} (h6 : hN H ≤ 6) : ∀ (l : List (List Nat)) (F a b t : Nat) (w : sm_Mem), l.length < F → NW w gs H sil l → a < 64 → b < 64 → t < 2 → ∃ w1, NFr w w1 ∧ b < 64 ∧ l.foldl (anyS gs.length) b < 64 ∧ ff_mo_sure_35_f F (u32 a) (u32 b) (u32 t) w = if t = 0 ∧ l.length = 0 then some (.int (-u32 3), wmRef 4 w1) else some (.int (u32 (l.foldl (fun a q => a &&& usedN q) a)), sm_wI w1 62 9 (((u32 1 <<< (w.1 62 1 &&& u32 31)) - u32 1) &&& (u32 (l.foldl (anyS gs.length) b) ^^^ -u32 1))) := by
  intro l
  induction l with
  | nil =>
    intro F a b t w hF hN ha hb ht
    obtain ⟨F, rfl⟩ : ∃ G, F = G + 1 := ⟨F - 1, by rw [List.length_nil] at hF; omega⟩
    obtain ⟨w1, a1, a2⟩ := mo_nextWay hN
    refine ⟨w1, a2, hb, hb, ?_⟩
    rw [ff_mo_sure_35_f]
    unfold ff_mo_sure_35_b
    rw [a1, ← a2.2.1 1 (by decide)]
    simp (disch := omega) only [u32_lit, cI_, if_true, u32_eq, mo_find, let_, List.length_nil, and_true]
    rfl
  | cons q l ih =>
    intro F a b t w hF hN ha hb ht
    rw [List.length_cons] at hF
    obtain ⟨F, rfl⟩ : ∃ G, F = G + 1 := ⟨F - 1, by omega⟩
    obtain ⟨w1, a1, a2, a3, a4⟩ := mo_nextWay hN
    have hq := a3.lt h6
    have hany : anyS gs.length b q = b ||| usedN q := if_pos a3.1
    have hlt : b ||| usedN q < 64 := Nat.or_lt_two_pow (n := 6) hb hq
    obtain ⟨w2, b1, b2, b3, b4⟩ := ih F (a &&& usedN q) (b ||| usedN q) 1 w1 (by omega) a4 (Nat.lt_of_le_of_lt Nat.and_le_left ha) hlt (by omega)
    refine ⟨w2, a2.trans b1, hb, by rw [List.foldl_cons, hany]; exact b3, ?_⟩
    rw [if_neg (by omega)] at b4
    rw [if_neg (by rw [List.length_cons]; omega), List.foldl_cons, List.foldl_cons, hany, ← a2.2.1 1 (by decide), ← b4, ff_mo_sure_35_f]
    unfold ff_mo_sure_35_b
    rw [a1]
    simp (disch := omega) only [u32_lit, cI_, u10, if_false, mo_spokeIn a4.1 a3, u32_and6 ha hq, u32_or6 hb hq]
theorem op_sure {r : Int32} {w : sm_Mem} (h : R w) : Both (ff_ho_sure r) (ff_mo_sure r) R w := by
  obtain ⟨hc, B, ds, hh⟩ := id h
  obtain ⟨hok, hn, n1, n2, n6⟩ := hh.n
  rcases aCases r 6 with hr | ⟨r, hr, -, rfl⟩
  · refine BothR_same h (-u32 1) ?_ ?_
    · unfold ff_ho_sure ff_ho_refusalOfPairs
      simp (disch := omega) only [u32_lit, let_, bs_, cI_, cV_, cL_, sm_rd_u, sm_wr_u, u32_add, u32_mul, u32_sub, u32_le, u32_lt, u32_eq, u32_eq_neg, u32_neg_eq, u32_neg_neg, u32_le_neg, u32_neg_lt, u32_lt_neg, u32_neg_le, u10, u01, u3n0, u1n0, u4n0, n9_lt, n1_lt, n9_neg, n1_neg, if_true, if_false, if_pos, if_neg, ne_eq, not_true_eq_false, not_false_eq_true, ho_within_bad hr]
    · unfold ff_mo_sure
      simp (disch := omega) only [u32_lit, let_, bs_, cI_, cV_, cL_, sm_rd_u, sm_wr_u, u32_add, u32_mul, u32_sub, u32_le, u32_lt, u32_eq, u32_eq_neg, u32_neg_eq, u32_neg_neg, u32_le_neg, u32_neg_lt, u32_lt_neg, u32_neg_le, u10, u01, u3n0, u1n0, u4n0, n9_lt, n1_lt, n9_neg, n1_neg, if_true, if_false, if_pos, if_neg, ne_eq, not_true_eq_false, not_false_eq_true, mo_isRow_bad hr]
  have hm1 : ∀ w0, ff_mo_isRow (u32 r) w0 = some (.int (u32 1), w0) := fun w0 => mo_isRow_good hr
  rcases BothR_goal (ca := ff_ho_sure (u32 r)) (ma := ff_mo_sure (u32 r)) h (fun v w1 e hv => by
    unfold ff_ho_sure
    simp only [u32_lit, e, cI_, if_neg hv]) (fun w0 v w1 e hv _ => by
    unfold ff_mo_sure
    simp only [u32_lit, hm1, e, cI_, if_neg hv, u10, if_false]) (goal_pairs hc hh hr) with ⟨gs, g5, gc, gsz, gat, gm⟩ | hb
  · obtain ⟨w1, a1, a2, a3, a4, a5, a6⟩ := pairs_run hr g5 gsz gat hh.2.2.2.2.2.1.1 hok
    have h6 := hok.1
    have hs := wys_small (sil := 0) h6 g5
    have e11 := a4.2.2.2.2.2.1
    rw [anyV_wys] at e11
    by_cases h0 : (wys 0 gs (playV B ds).1).length = 0
    · have hx : XFr w w1 := XFr.of a6
      have hclass : ff_ho_sure (u32 r) w = some (.int (-u32 3), wcRef 4 w1) := by
        unfold ff_ho_sure
        simp (disch := omega) only [u32_lit, gc, cI_, if_true, rr_row hr, bs_, a1, cV_, wy_fullWays a5 a3, h0, td_refuse]
      obtain ⟨w3, b1, b2, b3⟩ := gm (wcRef 4 w1) (fun a h1 h2 => by rw [wcRef_ne (by omega) (by omega)]; exact hx.1 a (by omega))
      obtain ⟨w5, c1, c2, c3⟩ := mo_beginWays b2
      obtain ⟨w6, d1, -, d2, d3⟩ := mo_sure_loop h6 (wys 0 gs (playV B ds).1) 1000000 63 0 0 w5 (by omega) c3 (by omega) (by omega) (by omega)
      rw [if_pos ⟨rfl, h0⟩] at d3
      have hmodel : ff_mo_sure (u32 r) (wcRef 4 w1) = some (.int (-u32 3), wmRef 4 w6) := by
        unfold ff_mo_sure ff_mo_sure_35
        simp (disch := omega) only [u32_lit, hm1, cI_, u10, if_false, b1, if_true, c1, cV_]
        rw [sm_N_eq]
        exact d3
      have e62 : w1.1 62 = w.1 62 := hx.1 62 (by omega)
      refine Both_mk _ _ _ hclass hmodel (R_done_ref hc hh hx a2 (((MFr.l b3).trans (MFr.n c2)).trans (MFr.n d1)) ?_ ?_ ?_)
      · rw [d1.2.1 9 (by decide), c2.2.1 9 (by decide), b3.2.1 9 (by decide) (by decide) (by decide), wcRef_ne (by decide) (by decide), e62]
      · rw [a6.1 60 (by omega)]
      · rw [d1.2.2, c2.2.2, b3.2.2]
        exact a6.2.2
    · have hin := wy_inAll a5 a3 a4 h6
      rw [if_neg h0] at hin
      have e36 : w1.1 36 0 = u32 B.1 := by rw [a6.2.1 0 (by decide)]; exact n1
      let w2 := sm_wI w1 60 0 (((u32 1 <<< (u32 B.1 &&& u32 31)) - u32 1) &&& (u32 ((wys 0 gs (playV B ds).1).foldl (anyS gs.length) 0) ^^^ -u32 1))
      have hx : XFr w w2 := (XFr.of a6).trans XFr.told
      have hclass : ff_ho_sure (u32 r) w = some (.int (u32 ((wys 0 gs (playV B ds).1).foldl (fun a q => a &&& usedN q) 63)), w2) := by
        have hin2 : ff_wy_inAll w2 = some (.int (u32 ((wys 0 gs (playV B ds).1).foldl (fun a q => a &&& usedN q) 63)), w2) := by
          have := wy_inAll (w := w2) (GW.fr a5 (by show (sm_wI _ 60 0 _).1 49 3 = _; rw [sm_wI_ne (by decide)]) (by show (sm_wI _ 60 0 _).1 49 12 = _; rw [sm_wI_ne (by decide)]) (sm_wI_ne (by decide)) (sm_wI_ne (by decide))) (AccD.fr a3 (sm_wI_ne (by decide)) (sm_wI_ne (by decide))) (AccR.fr a4 (sm_wI_ne (by decide)) (sm_wI_ne (by decide))) h6
          rw [if_neg h0] at this
          exact this
        unfold ff_ho_sure
        simp (disch := omega) only [u32_lit, gc, cI_, if_true, rr_row hr, bs_, a1, cV_, wy_fullWays a5 a3, u32_eq, if_neg h0]
        unfold ff_hs_allSpeakers
        simp only [u32_lit, cI_, let_, e36, e11]
        show sm_cI (ff_wy_inAll w2) _ = _
        rw [hin2]
        rfl
      obtain ⟨w3, b1, b2, b3⟩ := gm w2 (fun a h1 h2 => hx.1 a (by omega))
      obtain ⟨w5, c1, c2, c3⟩ := mo_beginWays b2
      obtain ⟨w6, d1, -, d2, d3⟩ := mo_sure_loop h6 (wys 0 gs (playV B ds).1) 1000000 63 0 0 w5 (by omega) c3 (by omega) (by omega) (by omega)
      have e1 : w5.1 62 1 = u32 B.1 := by
        rw [c2.2.1 1 (by decide), b3.2.1 1 (by decide) (by decide) (by decide)]
        show (sm_wI _ 60 0 _).1 62 1 = _
        rw [sm_wI_ne (by decide), a6.1 62 (by omega)]
        exact n2
      rw [if_neg (fun h => h0 h.2), e1] at d3
      have hmodel : ff_mo_sure (u32 r) w2 = some (.int (u32 ((wys 0 gs (playV B ds).1).foldl (fun a q => a &&& usedN q) 63)), sm_wI w6 62 9 (((u32 1 <<< (u32 B.1 &&& u32 31)) - u32 1) &&& (u32 ((wys 0 gs (playV B ds).1).foldl (anyS gs.length) 0) ^^^ -u32 1))) := by
        unfold ff_mo_sure ff_mo_sure_35
        simp (disch := omega) only [u32_lit, hm1, cI_, u10, if_false, b1, if_true, c1, cV_]
        rw [sm_N_eq]
        exact d3
      refine Both_mk _ _ _ hclass hmodel (R_done hc hh hx ?_ ((((MFr.l b3).trans (MFr.n c2)).trans (MFr.n d1)).trans MFr.told) ?_ ?_ ?_)
      · exact CH_fr (fun a h1 h2 => sm_wI_ne (by omega)) a2
      · rw [sm_wI_eq, sm_wI_eq]
      · rw [sm_wI_2, d1.2.2, c2.2.2, b3.2.2]
        show w1.2 60 1 = w1.2 62 10
        rw [a6.2.2]
        exact hc.2.2.2.1
      · rw [sm_wI_2, d1.2.2, c2.2.2, b3.2.2]
        show w1.2 60 2 = w1.2 62 11
        rw [a6.2.2]
        exact hc.2.2.2.2.1
  · exact hb
