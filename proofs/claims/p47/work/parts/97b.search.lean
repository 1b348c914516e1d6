/-! pure: what the class answers: ways, orders, chances -/
/-- a row of words; of pairs -/
def RowW (w : sm_Mem) (r : Nat) (ws : List Nat) : Prop := w.1 (2 + 2 * r) 1 = u32 ws.length ∧ ∀ j x, ws[j]? = some x → w.1 (2 + 2 * r + 1) j = u32 x ∧ x < 6
def RowP (w : sm_Mem) (r : Nat) (gs : List Gl) : Prop := w.1 (2 + 2 * r) 1 = u32 (2 * gs.length) ∧ ∀ j g, gs[j]? = some g → w.1 (2 + 2 * r + 1) (2 * j) = u32 g.1 ∧ w.1 (2 + 2 * r + 1) (2 * j + 1) = oAns g.2 ∧ g.1 < 6 ∧ ∃ q, g.2 = some q ∧ q < 6
theorem RowW.fr {w w1 : sm_Mem} {r : Nat} {ws : List Nat} (h1 : w1.1 (2 + 2 * r) = w.1 (2 + 2 * r)) (h2 : w1.1 (2 + 2 * r + 1) = w.1 (2 + 2 * r + 1)) (h : RowW w r ws) : RowW w1 r ws := ⟨by rw [h1]; exact h.1, fun j x hx => by rw [h2]; exact h.2 j x hx⟩
theorem RowW.a {w w1 : sm_Mem} {r : Nat} {ws : List Nat} (hr : r < 6) (ha : AFr w w1) (h : RowW w r ws) : RowW w1 r ws := h.fr (ha _ (by omega)) (ha _ (by omega))
theorem RowP.fr {w w1 : sm_Mem} {r : Nat} {gs : List Gl} (h1 : w1.1 (2 + 2 * r) = w.1 (2 + 2 * r)) (h2 : w1.1 (2 + 2 * r + 1) = w.1 (2 + 2 * r + 1)) (h : RowP w r gs) : RowP w1 r gs := ⟨by rw [h1]; exact h.1, fun j x hx => by rw [h2]; exact h.2 j x hx⟩
theorem RowP.a {w w1 : sm_Mem} {r : Nat} {gs : List Gl} (hr : r < 6) (ha : AFr w w1) (h : RowP w r gs) : RowP w1 r gs := h.fr (ha _ (by omega)) (ha _ (by omega))
theorem wordOf_u {x : Nat} (h : x < 6) : (wordOf (u32 x)).isSome = true := by
  unfold wordOf
  rw [u32_toInt (by omega), if_pos (by omega)]
  rfl
theorem allW_of {g : Nat → Int32} : ∀ (m p : Nat), (∀ j, p ≤ j → j < p + m → ∃ x, x < 6 ∧ g j = u32 x) → allW g p m = true
  | 0, _, _ => rfl
  | m + 1, p, h => by
    obtain ⟨x, h1, h2⟩ := h p (Nat.le_refl _) (by omega)
    rw [allW, h2, wordOf_u h1, allW_of m (p + 1) (fun j a b => h j (by omega) (by omega))]
    rfl
theorem RowW.all {w : sm_Mem} {r : Nat} {ws : List Nat} (h : RowW w r ws) : allW (w.1 (2 + 2 * r + 1)) 0 ws.length = true := allW_of _ _ (fun j _ hj => by
  rw [Nat.zero_add] at hj
  have := h.2 j ws[j] (List.getElem?_eq_getElem hj)
  exact ⟨_, this.2, this.1⟩)
theorem RowP.all {w : sm_Mem} {r : Nat} {gs : List Gl} (h : RowP w r gs) : allW (w.1 (2 + 2 * r + 1)) 0 (2 * gs.length) = true := allW_of _ _ (fun j _ hj => by
  rw [Nat.zero_add] at hj
  obtain ⟨a1, a2, a3, q, a4, a5⟩ := h.2 (j / 2) gs[j / 2] (List.getElem?_eq_getElem (by omega))
  by_cases e : j % 2 = 0
  · rw [show 2 * (j / 2) = j by omega] at a1
    exact ⟨_, a3, a1⟩
  · rw [show 2 * (j / 2) + 1 = j by omega, a4] at a2
    exact ⟨q, a5, a2⟩)
theorem refW_ok {r most : Nat} {w : sm_Mem} {B : HBase} {ds : List Deed} {ws : List Nat} (hh : RHs w B ds) (h0 : 0 < B.1) (hr : r < 6) (hm : most ≤ 40) (h : RowW w r ws) (hl : ws.length ≤ most) : ff_ho_refusalOfWords (u32 r) (u32 most) w = some (.int (u32 0), w) := by
  obtain ⟨hok, hn, n1, n6⟩ := hh.n
  have := ((ho_refW (most := most) hr hm n1 n6).2.2 ws.length (by omega) h0 h.1).2 hl
  rw [h.all, if_pos rfl] at this
  exact this
theorem refP_ok {r : Nat} {w : sm_Mem} {B : HBase} {ds : List Deed} {gs : List Gl} (hh : RHs w B ds) (h0 : 0 < B.1) (hr : r < 6) (h : RowP w r gs) (hl : gs.length ≤ 5) : ff_ho_refusalOfPairs (u32 r) w = some (.int (u32 0), w) := by
  obtain ⟨hok, hn, n1, n6⟩ := hh.n
  have := ((ho_refP hr n1 n6).2.2 (2 * gs.length) (by omega) h0 h.1).2 (by omega) (by omega)
  rw [h.all, if_pos rfl] at this
  exact this
theorem glO_at {ws : List Nat} {j : Nat} {g : Gl} (h : (glOf ws)[j]? = some g) : ws[j]? = some g.1 ∧ g.2 = none := by
  unfold glOf at h
  rw [List.getElem?_map] at h
  cases hj : ws[j]? with
  | none => rw [hj] at h; cases h
  | some x => rw [hj] at h; cases h; exact ⟨rfl, rfl⟩
theorem runW {r : Nat} {w : sm_Mem} {B : HBase} {ds : List Deed} {ws : List Nat} (hh : RHs w B ds) (hr : r < 6) (h : RowW w r ws) (hl : ws.length ≤ 5) : ∃ w1, ff_wy_runWords (2 + 2 * r) (-u32 9) w = some (.null, w1) ∧ CH w1 (playV B ds).1 ∧ AccD w1 (tre 0 (glOf ws) (playV B ds).1) ∧ AccR w1 (glOf ws).length none (glOf ws) (tre 0 (glOf ws) (playV B ds).1) ∧ GW w1 (glOf ws).length none (glOf ws) ∧ RFr w w1 :=
  words_run hr (by rw [glOf_len]; exact hl) (by rw [glOf_len, Nat.one_mul]; exact h.1) (fun j g hj => by
    obtain ⟨a1, a2⟩ := glO_at hj
    have := h.2 j _ a1
    rw [Nat.one_mul]
    exact ⟨this.1, fun _ => a2, fun h => absurd h (by decide), this.2, fun q hq => by rw [a2] at hq; cases hq⟩) hh.2.2.2.2.1.1 hh.n.1
theorem runP {r : Nat} {w : sm_Mem} {B : HBase} {ds : List Deed} {gs : List Gl} (hh : RHs w B ds) (hr : r < 6) (h : RowP w r gs) (hl : gs.length ≤ 5) : ∃ w1, ff_wy_runPairs (2 + 2 * r) w = some (.null, w1) ∧ CH w1 (playV B ds).1 ∧ AccD w1 (tre 0 gs (playV B ds).1) ∧ AccR w1 gs.length none gs (tre 0 gs (playV B ds).1) ∧ GW w1 gs.length none gs ∧ RFr w w1 :=
  pairs_run hr hl h.1 (fun j g hj => by
    obtain ⟨a1, a2, a3, q, a4, a5⟩ := h.2 j g hj
    exact ⟨a1, fun h => absurd h (by decide), fun _ => a2, a3, fun q' hq => by rw [a4] at hq; cases hq; exact a5⟩) hh.2.2.2.2.1.1 hh.n.1
def inAllV (l : List (List Nat)) : Nat := if l.length = 0 then 0 else l.foldl (fun a q => a &&& usedN q) 63
theorem ch_ways {r : Nat} {w : sm_Mem} {B : HBase} {ds : List Deed} {ws : List Nat} (hh : RHs w B ds) (h0 : 0 < B.1) (hr : r < 6) (h : RowW w r ws) (hl : ws.length ≤ 5) : ∃ w1, ff_ho_ways (u32 r) w = some (.int (u32 1), w1) ∧ RHs w1 B ds ∧ AFr w w1 ∧ w1.2 60 1 = u64 (wys 0 (glOf ws) (playV B ds).1).length ∧ w1.2 60 2 = u64 1 ∧ w1.1 60 0 = u32 (inAllV (wys 0 (glOf ws) (playV B ds).1)) := by
  obtain ⟨w1, a1, a2, a3, a4, a5, a6⟩ := runW hh hr h hl
  have h6 := hh.n.1.1
  have gc := refW_ok hh h0 hr (show 5 ≤ 40 by decide) h hl
  have hs := wys_small (sil := 0) (gs := glOf ws) (H := (playV B ds).1) h6 (by rw [glOf_len]; exact hl)
  let w2 := sm_wI (sm_wL (sm_wL w1 60 1 (u64 (wys 0 (glOf ws) (playV B ds).1).length)) 60 2 (u64 1)) 60 0 (if (wys 0 (glOf ws) (playV B ds).1).length = 0 then u32 0 else u32 ((wys 0 (glOf ws) (playV B ds).1).foldl (fun a q => a &&& usedN q) 63))
  have hx : XFr w w2 := (((XFr.of a6).trans XFr.long).trans XFr.long).trans XFr.told
  refine ⟨w2, ?_, RHs_search hh (CH_fr (fun a h1 h2 => by show (sm_wI _ 60 0 _).1 a = _; rw [sm_wI_ne (by omega)]; rfl) a2) hx, AFr.x hx, rfl, rfl, ?_⟩
  · unfold ff_ho_ways
    simp (disch := omega) only [u32_lit, u64_lit, gc, cI_, if_true, rr_row hr, bs_, a1, cV_, wy_fullWays a5 a3, u32_64, td_share1]
    have hin := wy_inAll (w := sm_wL (sm_wL w1 60 1 (u64 (wys 0 (glOf ws) (playV B ds).1).length)) 60 2 (u64 1)) a5 a3 a4 h6
    simp only [hin, cI_, let_]
    rfl
  · show (sm_wI _ 60 0 _).1 60 0 = _
    rw [sm_wI_eq]
    unfold inAllV
    split <;> rfl
theorem ch_far {r : Nat} {w : sm_Mem} {B : HBase} {ds : List Deed} {ws : List Nat} (hh : RHs w B ds) (h0 : 0 < B.1) (hr : r < 6) (h : RowW w r ws) (hl : ws.length ≤ 5) : ∃ w1, ff_ho_far (u32 r) w = some (.int (u32 (farL 0 (glOf ws) (playV B ds).1 0 ws.length)), w1) ∧ RHs w1 B ds ∧ AFr w w1 ∧ w1.2 = w.2 ∧ w1.1 60 0 = u32 (wys 0 ((glOf ws).take (farL 0 (glOf ws) (playV B ds).1 0 ws.length)) (playV B ds).1).length := by
  obtain ⟨w1, a1, a2, a3, a4, a5, a6⟩ := runW hh hr h hl
  have h6 := hh.n.1.1
  have g5 : (glOf ws).length ≤ 5 := by rw [glOf_len]; exact hl
  have gc := refW_ok hh h0 hr (show 5 ≤ 40 by decide) h hl
  have hfl := farL_le (sil := 0) (gs := glOf ws) (H := (playV B ds).1) (glOf ws).length 0
  rw [← glOf_len (r := ws)]
  generalize hfd : farL 0 (glOf ws) (playV B ds).1 0 (glOf ws).length = f at hfl
  have e53 : w1.1 53 f = u32 (wys 0 ((glOf ws).take f) (playV B ds).1).length := by
    rw [a3.1.1 f (by omega), cntV_take (by omega)]
  let w2 := sm_wI w1 60 0 (u32 (wys 0 ((glOf ws).take f) (playV B ds).1).length)
  have hx : XFr w w2 := (XFr.of a6).trans XFr.told
  refine ⟨w2, ?_, RHs_search hh (CH_fr (fun a h1 h2 => sm_wI_ne (by omega)) a2) hx, AFr.x hx, a6.2.2, sm_wI_eq⟩
  have hfar : ff_wy_farthest w1 = some (.int (u32 f), w1) := by
    have := wy_far_loop h6 a5 a3 (glOf ws).length 0 1000000 (by omega) (by omega)
    unfold ff_wy_farthest ff_wy_farthest_4
    rw [sm_N_eq, u32_lit, u32_lit, ← hfd]
    exact this
  unfold ff_ho_far
  simp (disch := omega) only [u32_lit, gc, cI_, if_true, rr_row hr, bs_, a1, cV_, hfar, sm_rd_u, e53, let_]
  rfl
/-- nothing but a row, and what is aside -/
def BFr (r : Nat) (w w1 : sm_Mem) : Prop := ∀ a, (a < 36 ∨ 61 < a) → a ≠ 2 + 2 * r → a ≠ 2 + 2 * r + 1 → w1.1 a = w.1 a
theorem ch_few {r t : Nat} {w : sm_Mem} {B : HBase} {ds : List Deed} {ws : List Nat} (hh : RHs w B ds) (h0 : 0 < B.1) (hr : r < 6) (ht : t < 6) (h : RowW w r ws) (hl : ws.length ≤ 5) : match (wys 0 (glOf ws) (playV B ds).1).foldl (bestS ws.length) none with
    | none => ∃ w1, ff_ho_few (u32 r) (u32 t) w = some (.int (-u32 9), w1) ∧ RHs w1 B ds ∧ AFr w w1 ∧ w1.2 = w.2 ∧ (wys 0 (glOf ws) (playV B ds).1).length = 0
    | some b => ∃ w1, ff_ho_few (u32 r) (u32 t) w = some (.int (u32 b.1), w1) ∧ RHs w1 B ds ∧ BFr t w w1 ∧ w1.2 = w.2 ∧ b.2.length = ws.length ∧ w1.1 (2 + 2 * t) 1 = u32 ws.length ∧ ∀ j x, b.2[j]? = some x → w1.1 (2 + 2 * t + 1) j = u32 x := by
  obtain ⟨w1, a1, a2, a3, a4, a5, a6⟩ := runW hh hr h hl
  have h6 := hh.n.1.1
  have g5 : (glOf ws).length ≤ 5 := by rw [glOf_len]; exact hl
  have gc := refW_ok hh h0 hr (show 5 ≤ 40 by decide) h hl
  have hs := wys_small (sil := 0) (gs := glOf ws) (H := (playV B ds).1) h6 g5
  have hx : XFr w w1 := XFr.of a6
  have e8 := a4.1
  have e55 := a4.2.1
  rw [bestV_wys] at e8 e55
  have e36 : w1.1 49 3 = u32 (glOf ws).length := a5.2.2.1
  rw [← glOf_len (r := ws)]
  cases hbst : (wys 0 (glOf ws) (playV B ds).1).foldl (bestS (glOf ws).length) none with
  | none =>
    have hz : (wys 0 (glOf ws) (playV B ds).1).length = 0 := by
      cases hw : wys 0 (glOf ws) (playV B ds).1 with
      | nil => rfl
      | cons q l =>
        rw [hw, List.foldl_cons] at hbst
        have hq := (wys_64 (gs := glOf ws) h6 (show q ∈ wys 0 (glOf ws) (playV B ds).1 by rw [hw]; exact List.mem_cons_self)).1
        have keep : ∀ (l : List (List Nat)) (b : Nat × List Nat), ∃ c, l.foldl (bestS (glOf ws).length) (some b) = some c := by
          intro l
          induction l with
          | nil => intro b; exact ⟨b, rfl⟩
          | cons p l ih =>
            intro b
            rw [List.foldl_cons]
            have : ∃ c, bestS (glOf ws).length (some b) p = some c := by
              unfold bestS
              split
              · dsimp only
                split
                · exact ⟨_, rfl⟩
                · exact ⟨_, rfl⟩
              · exact ⟨_, rfl⟩
            obtain ⟨c, hc⟩ := this
            rw [hc]
            exact ih c
        have e1 : bestS (glOf ws).length none q = some (popV (usedN q), q) := by
          unfold bestS
          rw [if_pos hq]
        rw [e1] at hbst
        obtain ⟨c, hc⟩ := keep l (popV (usedN q), q)
        rw [hc] at hbst
        cases hbst
    refine ⟨w1, ?_, RHs_search hh a2 hx, AFr.x hx, a6.2.2, hz⟩
    unfold ff_ho_few
    simp (disch := omega) only [u32_lit, ho_within_good ht, u10, if_false, gc, cI_, if_true, rr_row hr, bs_, a1, cV_, wy_fullWays a5 a3, hz]
  | some b =>
    have hz : ¬ (wys 0 (glOf ws) (playV B ds).1).length = 0 := by
      intro h0
      rw [List.length_eq_zero_iff.mp h0] at hbst
      cases hbst
    rw [hbst] at e8 e55
    obtain ⟨x1, x2, x3⟩ := e55 b rfl
    have hRt := isRow_row ht
    obtain ⟨w2, b1, b2, b3, b4, b5⟩ := rw_become (s := 55) (m := 5) (L := (glOf ws).length) (w := w1) hRt rfl (by omega) g5 (by omega)
    refine ⟨w2, ?_, (RHs_search hh a2 hx).fr (fun a h1 h2 => b4 a (by omega) (by omega)), fun a ha e1 e2 => (b4 a e1 e2).trans (AFr.x hx a ha), b5.trans a6.2.2, x2, b2, fun j x hj => ?_⟩
    · unfold ff_ho_few
      simp (disch := omega) only [u32_lit, ho_within_good ht, u10, if_false, gc, cI_, if_true, rr_row hr, bs_, a1, cV_, wy_fullWays a5 a3, u32_eq, if_neg hz, rr_row ht, e36, b1, hRt.rc]
      rw [b4 49 (by omega) (by omega), e8]
      rfl
    · have hjl : j < b.2.length := (List.getElem?_eq_some_iff.mp hj).1
      rw [b3 j (by omega)]
      exact x3 j x hj
theorem ch_dumb {w : sm_Mem} {B : HBase} {ds : List Deed} (hh : RHs w B ds) (h0 : 0 < B.1) : ∃ w1, RHs w1 B ds ∧ AFr w w1 ∧ w1.2 = w.2 ∧ match dumbF (playV B ds).1 1 3 with
    | none => ff_ho_dumb w = some (.int (-u32 9), w1)
    | some p => ff_ho_dumb w = some (.int (u32 p.1), w1) ∧ w1.1 60 0 = u32 p.2 := by
  obtain ⟨hok, hn, n1, n6⟩ := hh.n
  obtain ⟨w1, a1, a2, a3⟩ := ho_dumb_loop hok 3 1 1000000 w (by omega) (by omega) (by omega) hh.2.2.2.2.1.1
  have hx : XFr w w1 := XFr.t a2 (fun a ha => a2.1 a (by omega))
  have hclass : ff_ho_dumb w = ff_ho_dumb_15_f 1000000 (u32 1) w := by
    unfold ff_ho_dumb ff_ho_dumb_15
    simp (disch := omega) only [u32_lit, n1, u32_eq, if_neg (show ¬ B.1 = 0 by omega)]
    rw [sm_N_eq]
  rw [a3] at hclass
  cases hd : dumbF (playV B ds).1 1 3 with
  | none =>
    rw [hd] at hclass
    exact ⟨w1, RHs_search hh a1 hx, AFr.x hx, a2.2.2, hclass⟩
  | some p =>
    rw [hd] at hclass
    have hx2 : XFr w (sm_wI w1 60 0 (u32 p.2)) := hx.trans XFr.told
    exact ⟨_, RHs_search hh (CH_fr (fun a h1 h2 => sm_wI_ne (by omega)) a1) hx2, AFr.x hx2, a2.2.2, hclass, sm_wI_eq⟩
theorem ch_longest {r : Nat} {w : sm_Mem} {B : HBase} {ds : List Deed} (hh : RHs w B ds) (h0 : 0 < B.1) (hr : r < 6) : ∃ w1, ff_ho_longest (u32 r) w = some (.int (u32 (longF (playV B ds).1 4).1), w1) ∧ RHs w1 B ds ∧ BFr r w w1 ∧ w1.2 = w.2 ∧ w1.1 60 0 = w.1 60 0 ∧ RowW w1 r (digL (longF (playV B ds).1 4).1 (longF (playV B ds).1 4).2) := by
  obtain ⟨hok, hn, n1, n6⟩ := hh.n
  have hRw := isRow_row hr
  have hlf := longF_le (H := (playV B ds).1) 4
  obtain ⟨w1, a1, a2, a3, a4⟩ := tr_seekLongest hok hh.2.2.2.2.1.1
  have hx : XFr w w1 := XFr.lg a4
  obtain ⟨b3, b4, b5⟩ := a3
  rw [digL_len] at b3 b4
  obtain ⟨w2, c1, c2, c3, c4, c5⟩ := rw_become (s := 58) (m := 4) (L := (longF (playV B ds).1 4).1) (w := w1) hRw rfl (by omega) b4 (by omega)
  refine ⟨w2, ?_, (RHs_search hh a2 hx).fr (fun a h1 h2 => c4 a (by omega) (by omega)), fun a ha e1 e2 => (c4 a e1 e2).trans (AFr.x hx a ha), c5.trans a4.2.2, by rw [c4 60 (by omega) (by omega), a4.1 60 (by omega)], ⟨by rw [digL_len]; exact c2, fun j x hj => ?_⟩⟩
  · unfold ff_ho_longest
    simp (disch := omega) only [u32_lit, ho_within_good hr, cI_, u10, if_false, n1, u32_eq, if_neg (show ¬ B.1 = 0 by omega), a1, cV_, rr_row hr, bs_, b3, c1, hRw.rc]
    rw [c4 56 (by omega) (by omega), b3, if_neg (by decide)]
  · obtain ⟨e1, e2⟩ := digL_at hj
    refine ⟨by rw [c3 j e1]; exact b5 j x hj, ?_⟩
    rw [e2]
    exact Nat.mod_lt _ (by decide)
theorem ch_heard {r : Nat} {w : sm_Mem} {B : HBase} {ds : List Deed} {gs : List Gl} (hh : RHs w B ds) (h0 : 0 < B.1) (hr : r < 6) (h : RowP w r gs) (hl : gs.length ≤ 5) : ∃ w1, ff_ho_heard (u32 r) w = some (.int (u32 1), w1) ∧ RHs w1 B ds ∧ AFr w w1 ∧ w1.2 60 1 = u64 (wys 0 gs (playV B ds).1).length ∧ w1.1 60 0 = oAns ((wys 0 gs (playV B ds).1).foldl (openS gs.length) none) := by
  obtain ⟨w1, a1, a2, a3, a4, a5, a6⟩ := runP hh hr h hl
  have gc := refP_ok hh h0 hr h hl
  have hs := wys_small (sil := 0) (gs := gs) (H := (playV B ds).1) hh.n.1.1 hl
  have e9 := a4.2.2.1
  rw [openV_wys] at e9
  let w2 := sm_wI (sm_wL (sm_wL w1 60 1 (u64 (wys 0 gs (playV B ds).1).length)) 60 2 (u64 1)) 60 0 (oAns ((wys 0 gs (playV B ds).1).foldl (openS gs.length) none))
  have hx : XFr w w2 := (((XFr.of a6).trans XFr.long).trans XFr.long).trans XFr.told
  refine ⟨w2, ?_, RHs_search hh (CH_fr (fun a h1 h2 => by show (sm_wI _ 60 0 _).1 a = _; rw [sm_wI_ne (by omega)]; rfl) a2) hx, AFr.x hx, rfl, sm_wI_eq⟩
  unfold ff_ho_heard
  simp (disch := omega) only [u32_lit, u64_lit, gc, cI_, if_true, rr_row hr, bs_, a1, cV_, wy_fullWays a5 a3, u32_64, td_share1, let_, sm_wL_1, e9]
  rfl
theorem ch_sure {r : Nat} {w : sm_Mem} {B : HBase} {ds : List Deed} {gs : List Gl} (hh : RHs w B ds) (h0 : 0 < B.1) (hr : r < 6) (h : RowP w r gs) (hl : gs.length ≤ 5) : ∃ w1, RHs w1 B ds ∧ AFr w w1 ∧ (((wys 0 gs (playV B ds).1).length = 0 ∧ ff_ho_sure (u32 r) w = some (.int (-u32 3), w1)) ∨ (¬ (wys 0 gs (playV B ds).1).length = 0 ∧ ff_ho_sure (u32 r) w = some (.int (u32 (inAllV (wys 0 gs (playV B ds).1))), w1) ∧ w1.1 60 0 = (((u32 1 <<< (u32 B.1 &&& u32 31)) - u32 1) &&& (u32 ((wys 0 gs (playV B ds).1).foldl (anyS gs.length) 0) ^^^ -u32 1)))) := by
  obtain ⟨w1, a1, a2, a3, a4, a5, a6⟩ := runP hh hr h hl
  obtain ⟨hok, hn, n1, n6⟩ := hh.n
  have h6 := hok.1
  have gc := refP_ok hh h0 hr h hl
  have hs := wys_small (sil := 0) (gs := gs) (H := (playV B ds).1) h6 hl
  have e11 := a4.2.2.2.2.2.1
  rw [anyV_wys] at e11
  by_cases hz : (wys 0 gs (playV B ds).1).length = 0
  · have hx : XFr w w1 := XFr.of a6
    refine ⟨wcRef 4 w1, (RHs_search hh a2 hx).fr (fun a h1 h2 => wcRef_ne (by omega) (by omega)), fun a ha => (wcRef_ne (by omega) (by omega)).trans (AFr.x hx a ha), Or.inl ⟨hz, ?_⟩⟩
    unfold ff_ho_sure
    simp (disch := omega) only [u32_lit, gc, cI_, if_true, rr_row hr, bs_, a1, cV_, wy_fullWays a5 a3, hz, td_refuse]
  · have hin := wy_inAll a5 a3 a4 h6
    rw [if_neg hz] at hin
    have e36 : w1.1 36 0 = u32 B.1 := by rw [a6.2.1 0 (by decide)]; exact n1
    let w2 := sm_wI w1 60 0 (((u32 1 <<< (u32 B.1 &&& u32 31)) - u32 1) &&& (u32 ((wys 0 gs (playV B ds).1).foldl (anyS gs.length) 0) ^^^ -u32 1))
    have hx : XFr w w2 := (XFr.of a6).trans XFr.told
    refine ⟨w2, RHs_search hh (CH_fr (fun a h1 h2 => sm_wI_ne (by omega)) a2) hx, AFr.x hx, Or.inr ⟨hz, ?_, sm_wI_eq⟩⟩
    have hin2 : ff_wy_inAll w2 = some (.int (u32 ((wys 0 gs (playV B ds).1).foldl (fun a q => a &&& usedN q) 63)), w2) := by
      have := wy_inAll (w := w2) (GW.fr a5 (by show (sm_wI _ 60 0 _).1 49 3 = _; rw [sm_wI_ne (by decide)]) (by show (sm_wI _ 60 0 _).1 49 12 = _; rw [sm_wI_ne (by decide)]) (sm_wI_ne (by decide)) (sm_wI_ne (by decide))) (AccD.fr a3 (sm_wI_ne (by decide)) (sm_wI_ne (by decide))) (AccR.fr a4 (sm_wI_ne (by decide)) (sm_wI_ne (by decide))) h6
      rw [if_neg hz] at this
      exact this
    unfold ff_ho_sure inAllV
    rw [if_neg hz]
    simp (disch := omega) only [u32_lit, gc, cI_, if_true, rr_row hr, bs_, a1, cV_, wy_fullWays a5 a3, u32_eq, if_neg hz]
    unfold ff_hs_allSpeakers
    simp only [u32_lit, cI_, let_, e36, e11]
    show sm_cI (ff_wy_inAll w2) _ = _
    rw [hin2]
    rfl
theorem silent_class {fl : Nat} {cf : Int32 → Int32 → sm_Mem → sm_R} {wf : Int32 → sm_Mem → sm_R} (hcf : ∀ a1 a2 w, cf a1 a2 w = (if a2 < u32 0 then (some (.int (-u32 1), w)) else (if a2 ≤ u32 12 then (sm_cI (ff_ho_refusalOfWords a1 (u32 5) w) fun x1 w2 => (if x1 = u32 0 then (Option.bind (sm_rr 1 a1) fun r3 => (sm_cV (ff_wy_runWords r3 (-u32 9) w2) fun w5 => (sm_cL (wf a2 w5) fun x6 w7 => (sm_cL (ff_wy_weightOfAny w7) fun x8 w9 => (sm_cV (ff_td_share x6 x8 w9) fun w11 => (some (.int (u32 1), w11))))))) else (some (.int x1, w2)))) else (some (.int (-u32 1), w))))) (hwf : ∀ {n p : Nat} {gs : List Gl} {H : HV} {w : sm_Mem}, n = hN H → n ≤ 6 → p ≤ 12 → gs.length ≤ 5 → w.1 36 0 = u32 n → w.1 49 3 = u32 gs.length → AccD w (tre 0 gs H) → ∃ w1, wf (u32 p) w = some (.long (u64 (sumN (gainV fl n p gs H) (2 ^ n))), w1) ∧ (∀ a, a ≠ 54 → w1.1 a = w.1 a) ∧ w1.2 = w.2) {r p : Nat} {w : sm_Mem} {B : HBase} {ds : List Deed} {ws : List Nat} (hh : RHs w B ds) (h0 : 0 < B.1) (hr : r < 6) (hp12 : p ≤ 12) (h : RowW w r ws) (hl : ws.length ≤ 5) (hA : sumN (gainV fl B.1 p (glOf ws) (playV B ds).1) (2 ^ B.1) < 2147483648) : ∃ w1, cf (u32 r) (u32 p) w = some (.int (u32 1), w1) ∧ RHs w1 B ds ∧ AFr w w1 ∧ w1.2 60 1 = u64 (sumN (gainV fl B.1 p (glOf ws) (playV B ds).1) (2 ^ B.1) / Nat.gcd (sumN (gainV fl B.1 p (glOf ws) (playV B ds).1) (2 ^ B.1)) (12 ^ B.1)) ∧ w1.2 60 2 = u64 (12 ^ B.1 / Nat.gcd (sumN (gainV fl B.1 p (glOf ws) (playV B ds).1) (2 ^ B.1)) (12 ^ B.1)) := by
  obtain ⟨w1, a1, a2, a3, a4, a5, a6⟩ := runW hh hr h hl
  obtain ⟨hok, hn, n1, n6⟩ := hh.n
  have gc := refW_ok hh h0 hr (show 5 ≤ 40 by decide) h hl
  obtain ⟨q1, q2, q3, q4⟩ := pow_n n6
  have e36 : w1.1 36 0 = u32 B.1 := by rw [a6.2.1 0 (by decide)]; exact n1
  obtain ⟨w2, b1, b2, b3⟩ := hwf (p := p) hn.symm n6 hp12 (show (glOf ws).length ≤ 5 by rw [glOf_len]; exact hl) e36 a5.2.2.1 a3
  have e36' : w2.1 36 0 = u32 B.1 := by rw [b2 36 (by decide)]; exact e36
  let A := sumN (gainV fl B.1 p (glOf ws) (playV B ds).1) (2 ^ B.1)
  let w3 := sm_wL (sm_wL w2 60 1 (u64 (A / Nat.gcd A (12 ^ B.1)))) 60 2 (u64 (12 ^ B.1 / Nat.gcd A (12 ^ B.1)))
  have hx : XFr w w3 := (((XFr.of a6).trans ⟨fun a ha => b2 a (by omega), fun j hj => by rw [b2 36 (by decide)], by rw [b2 60 (by decide)]⟩).trans XFr.long).trans XFr.long
  refine ⟨w3, ?_, RHs_search hh (CH_fr (fun a h1 h2 => by show w2.1 a = _; exact b2 a (by omega)) a2) hx, AFr.x hx, rfl, rfl⟩
  rw [hcf]
  simp (disch := omega) only [u32_lt, if_neg, u32_le, if_pos]
  rw [gc, cI_, if_pos rfl, rr_row hr, bs_, a1, cV_, b1, cL_, wy_weightOfAny n6 e36', cL_, td_share hA (by omega) q3, cV_]
theorem ch_odds {r p : Nat} {w : sm_Mem} {B : HBase} {ds : List Deed} {ws : List Nat} (hh : RHs w B ds) (h0 : 0 < B.1) (hr : r < 6) (hp12 : p ≤ 12) (h : RowW w r ws) (hl : ws.length ≤ 5) (hA : sumN (gainV 1 B.1 p (glOf ws) (playV B ds).1) (2 ^ B.1) < 2147483648) : ∃ w1, ff_ho_odds (u32 r) (u32 p) w = some (.int (u32 1), w1) ∧ RHs w1 B ds ∧ AFr w w1 ∧ w1.2 60 1 = u64 (sumN (gainV 1 B.1 p (glOf ws) (playV B ds).1) (2 ^ B.1) / Nat.gcd (sumN (gainV 1 B.1 p (glOf ws) (playV B ds).1) (2 ^ B.1)) (12 ^ B.1)) ∧ w1.2 60 2 = u64 (12 ^ B.1 / Nat.gcd (sumN (gainV 1 B.1 p (glOf ws) (playV B ds).1) (2 ^ B.1)) (12 ^ B.1)) := by
  refine silent_class (fl := 1) (wf := ff_wy_weightOfFull) (fun a1 a2 w => ?_) (fun hn h6 hp h5 hw hL hA => ?_) hh h0 hr hp12 h hl hA
  · unfold ff_ho_odds
    rfl
  · obtain ⟨w1, a1, a2, a3, a4⟩ := wy_spread hn h6 hw hA
    refine ⟨w1, ?_, a3, a4⟩
    unfold ff_wy_weightOfFull ff_wy_weightOfFull_9
    rw [a1, cV_, sm_N_eq]
    exact wy_full_loop h6 hp h5 (by rw [a3 36 (by decide)]; exact hw) (by rw [a3 49 (by decide)]; exact hL) a2 _ 0 1000000 (Nat.zero_add _) (by have := (pow_n h6).2.1; omega)
