/-! pure: how far a row can be said -/
theorem lpF_each {α : Type} {f : Nat → List α} {m i : Nat} (h : lpF f i m = []) {j : Nat} (h1 : i ≤ j) (h2 : j < i + m) : f j = [] := by
  rw [List.eq_nil_iff_forall_not_mem]
  intro x hx
  have := (lpF_mem (x := x) m i).mpr ⟨j, h1, h2, hx⟩
  rw [h] at this
  cases this
theorem wys_take_mono {sil : Nat} : ∀ (gs : List Gl) (H : HV) (k : Nat), wys sil (gs.take k) H = [] → wys sil (gs.take (k + 1)) H = []
  | [], H, k, h => by
    rw [List.take_nil, wys] at h
    cases h
  | g :: gs, H, 0, h => by
    rw [List.take_zero, wys] at h
    cases h
  | g :: gs, H, k + 1, h => by
    rw [List.take_succ_cons, wys] at h ⊢
    refine lpF_nil _ _ (fun j h1 h2 => ?_)
    have e := lpF_each h h1 h2
    by_cases hs : stepV sil H j g = true
    · rw [if_pos hs] at e ⊢
      rw [List.map_eq_nil_iff] at e ⊢
      exact wys_take_mono gs _ k e
    · rw [if_neg hs]
theorem wys_take_le {sil : Nat} {gs : List Gl} {H : HV} : ∀ (d k : Nat), wys sil (gs.take k) H = [] → wys sil (gs.take (k + d)) H = []
  | 0, k, h => h
  | d + 1, k, h => by
    rw [show k + (d + 1) = (k + d) + 1 by omega]
    exact wys_take_mono gs H _ (wys_take_le d k h)
def farL (sil : Nat) (gs : List Gl) (H : HV) : Nat → Nat → Nat
  | k, 0 => k
  | k, m + 1 => if (wys sil (gs.take (k + 1)) H).length = 0 then k else farL sil gs H (k + 1) m
theorem farL_le {sil : Nat} {gs : List Gl} {H : HV} : ∀ (m k : Nat), k ≤ farL sil gs H k m ∧ farL sil gs H k m ≤ k + m
  | 0, k => ⟨Nat.le_refl _, Nat.le_refl _⟩
  | m + 1, k => by
    rw [farL]
    split
    · omega
    · have := farL_le (sil := sil) (gs := gs) (H := H) m (k + 1)
      omega
theorem sm_wI_wI {w : sm_Mem} {k j : Nat} {x y : Int32} : sm_wI (sm_wI w k j x) k j y = sm_wI w k j y := by
  refine Prod.ext ?_ rfl
  funext a b
  show (if a = k ∧ b = j then y else if a = k ∧ b = j then x else w.1 a b) = if a = k ∧ b = j then y else w.1 a b
  by_cases h : a = k ∧ b = j
  · rw [if_pos h, if_pos h]
  · rw [if_neg h, if_neg h, if_neg h]
theorem sm_wI_id {w : sm_Mem} {k j : Nat} : sm_wI w k j (w.1 k j) = w := by
  refine Prod.ext ?_ rfl
  funext a b
  show (if a = k ∧ b = j then w.1 k j else w.1 a b) = w.1 a b
  by_cases h : a = k ∧ b = j
  · rw [if_pos h, h.1, h.2]
  · rw [if_neg h]
theorem wy_far_dead {L : Nat} {gs : List Gl} {gu : Option Nat} {H : HV} {w : sm_Mem} {a : Nat} (hG : GW w L gu gs) (hA : AccD w (tre 0 gs H)) : ∀ (m p F : Nat), p + m = L + 1 → m < F → wys 0 (gs.take p) H = [] → ff_wy_farthest_4_f F (u32 a) (u32 p) w = some (.int (u32 a), w) := by
  obtain ⟨g1, g2, g3, -⟩ := hG
  intro m
  induction m with
  | zero =>
    intro p F hp hF h0
    obtain ⟨F, rfl⟩ : ∃ G, F = G + 1 := ⟨F - 1, by omega⟩
    rw [ff_wy_farthest_4_f]
    unfold ff_wy_farthest_4_b
    simp (disch := omega) only [g3, u32_lt, if_pos]
  | succ m ih =>
    intro p F hp hF h0
    obtain ⟨F, rfl⟩ : ∃ G, F = G + 1 := ⟨F - 1, by omega⟩
    have e : w.1 53 p = u32 0 := by
      rw [hA.1.1 p (by omega), cntV_take (by omega), h0]
      rfl
    rw [ff_wy_farthest_4_f]
    unfold ff_wy_farthest_4_b
    simp (disch := omega) only [u32_lit, g3, u32_lt, if_neg, sm_rd_u, bs_, e, u32_le, Nat.le_refl, if_true, u32_add]
    exact ih (p + 1) F (by omega) (by omega) (wys_take_mono gs H p h0)
theorem wy_far_loop {L : Nat} {gs : List Gl} {gu : Option Nat} {H : HV} {w : sm_Mem} (h6 : hN H ≤ 6) (hG : GW w L gu gs) (hA : AccD w (tre 0 gs H)) : ∀ (m k F : Nat), k + m = L → m < F → ff_wy_farthest_4_f F (u32 k) (u32 (k + 1)) w = some (.int (u32 (farL 0 gs H k m)), w) := by
  obtain ⟨g1, g2, g3, -⟩ := id hG
  intro m
  induction m with
  | zero =>
    intro k F hp hF
    obtain ⟨F, rfl⟩ : ∃ G, F = G + 1 := ⟨F - 1, by omega⟩
    rw [ff_wy_farthest_4_f, farL]
    unfold ff_wy_farthest_4_b
    simp (disch := omega) only [g3, u32_lt, if_pos]
  | succ m ih =>
    intro k F hp hF
    obtain ⟨F, rfl⟩ : ∃ G, F = G + 1 := ⟨F - 1, by omega⟩
    have hs := wys_small (sil := 0) (gs := gs.take (k + 1)) h6 (by rw [List.length_take]; omega)
    have e : w.1 53 (k + 1) = u32 (wys 0 (gs.take (k + 1)) H).length := by
      rw [hA.1.1 (k + 1) (by omega), cntV_take (by omega)]
    rw [ff_wy_farthest_4_f, farL]
    unfold ff_wy_farthest_4_b
    by_cases h0 : (wys 0 (gs.take (k + 1)) H).length = 0
    · rw [if_pos h0]
      simp (disch := omega) only [u32_lit, g3, u32_lt, if_neg, sm_rd_u, bs_, e, h0, u32_le, Nat.le_refl, if_true, u32_add]
      have hd := wys_take_mono gs H (k + 1) (List.length_eq_zero_iff.mp h0)
      by_cases hm : m = 0
      · subst hm
        obtain ⟨F, rfl⟩ : ∃ G, F = G + 1 := ⟨F - 1, by omega⟩
        rw [ff_wy_farthest_4_f]
        unfold ff_wy_farthest_4_b
        simp (disch := omega) only [g3, u32_lt, if_pos]
      · exact wy_far_dead hG hA m (k + 1 + 1) F (by omega) (by omega) hd
    · rw [if_neg h0]
      simp (disch := omega) only [u32_lit, g3, u32_lt, if_neg, sm_rd_u, bs_, e, u32_le, u32_add]
      exact ih (k + 1) F (by omega) (by omega)
/-- what goes with a goal of another size -/
def GFr (w w1 : sm_Mem) : Prop := (∀ a, a ≠ 62 → a ≠ 75 → a ≠ 76 → w1.1 a = w.1 a) ∧ (∀ j, j ≠ 21 → j ≠ 27 → w1.1 62 j = w.1 62 j) ∧ w1.2 = w.2
theorem GFr.trans {w w1 w2 : sm_Mem} (h1 : GFr w w1) (h2 : GFr w1 w2) : GFr w w2 := ⟨fun a x y z => (h2.1 a x y z).trans (h1.1 a x y z), fun j a b => (h2.2.1 j a b).trans (h1.2.1 j a b), h2.2.2.trans h1.2.2⟩
theorem GFr.n {w w1 : sm_Mem} (h : NFr w w1) : GFr w w1 := ⟨h.1, fun j _ b => h.2.1 j b, h.2.2⟩
theorem GFr.s {w : sm_Mem} {x : Int32} : GFr w (sm_wI w 62 21 x) := ⟨fun a h _ _ => sm_wI_ne h, fun j h _ => sm_wI_nj h, rfl⟩
theorem MFr.g {w w1 : sm_Mem} (h : GFr w w1) : MFr w w1 := ⟨fun a ha => h.1 a (by omega) (by omega) (by omega), h.2.1 1 (by decide) (by decide), h.2.1 12 (by decide) (by decide)⟩
/-- a search but for the goal's size -/
def SrG (w : sm_Mem) (gs : List Gl) (H : HV) (sil : Nat) : Prop := Srch (sm_wI w 62 21 (u32 gs.length)) gs H sil
theorem SrG.of {w : sm_Mem} {gs : List Gl} {H : HV} {sil : Nat} (h : Srch w gs H sil) : SrG w gs H sil := by
  unfold SrG
  rw [← h.2.1, sm_wI_id]
  exact h
theorem SrG.take {w : sm_Mem} {gs : List Gl} {H : HV} {sil k : Nat} (h : SrG w gs H sil) (hw : w.1 62 21 = u32 k) (hk : k ≤ gs.length) : Srch w (gs.take k) H sil := by
  obtain ⟨h1, h2, h3, h4, h5, h6, h7, h8⟩ := h
  rw [sm_wI_nj (by decide)] at h3 h4
  rw [sm_wI_ne (by decide), sm_wI_ne (by decide)] at h7
  have hl : (gs.take k).length = k := by rw [List.length_take]; omega
  refine ⟨by rw [hl]; omega, by rw [hl]; exact hw, h3, h4, h5, h6, fun j g hj => ?_, MSe_fr (sm_wI_nj (by decide)).symm (sm_wI_nj (by decide)).symm (sm_wI_ne (by decide)).symm (sm_wI_ne (by decide)).symm (sm_wI_ne (by decide)).symm h8 h6⟩
  rw [List.getElem?_take] at hj
  by_cases e : j < k
  · rw [if_pos e] at hj
    exact h7 j g hj
  · rw [if_neg e] at hj
    cases hj
theorem SrG.fr {w w1 : sm_Mem} {gs : List Gl} {H : HV} {sil : Nat} (h : SrG w gs H sil) (h62 : ∀ j, (j = 1 ∨ j = 22 ∨ j = 23 ∨ j = 24) → w1.1 62 j = w.1 62 j) (ha : ∀ a, (63 ≤ a ∧ a < 66) ∨ a = 73 ∨ a = 74 → w1.1 a = w.1 a) : SrG w1 gs H sil := by
  refine Srch.fr h (fun j hj => ?_) (fun a hb => by rw [sm_wI_ne (by omega), sm_wI_ne (by omega)]; exact ha a hb)
  by_cases e : j = 21
  · subst e; rw [sm_wI_eq, sm_wI_eq]
  · rw [sm_wI_nj e, sm_wI_nj e]; exact h62 j (by omega)
theorem SrG.g {w w1 : sm_Mem} {gs : List Gl} {H : HV} {sil : Nat} (h : SrG w gs H sil) (hf : GFr w w1) : SrG w1 gs H sil := h.fr (fun j hj => hf.2.1 j (by omega) (by omega)) (fun a ha => hf.1 a (by omega) (by omega) (by omega))
theorem mo_far_stop {w : sm_Mem} {k F : Nat} {a : Int32} : ff_mo_farGoal_9_f (F + 1) a (u32 k) (u32 0) w = some (.int (u32 k), sm_wI w 62 21 (u32 k)) := by
  rw [ff_mo_farGoal_9_f]
  unfold ff_mo_farGoal_9_b ff_mo_farGoal_45
  simp only [u32_lit, if_true, let_]
theorem isEmpty_len {α : Type} (l : List α) : (u32 (!l.isEmpty).toNat = u32 0) = (l.length = 0) := by
  cases l with
  | nil => exact propext ⟨fun _ => rfl, fun _ => rfl⟩
  | cons a l => exact propext ⟨fun h => absurd (show u32 1 = u32 0 from h) (by decide), fun h => by cases h⟩
theorem mo_far_loop {gs : List Gl} {H : HV} {sil : Nat} : ∀ (m k F : Nat) (w : sm_Mem), k + m = gs.length → m + 1 < F → SrG w gs H sil → ∃ w1, ff_mo_farGoal_9_f F (u32 gs.length) (u32 k) (u32 1) w = some (.int (u32 (farL sil gs H k m)), w1) ∧ GFr w w1 ∧ w1.1 62 21 = u32 (farL sil gs H k m) := by
  intro m
  induction m with
  | zero =>
    intro k F w hk hF hS
    obtain ⟨F, rfl⟩ : ∃ G, F = G + 1 := ⟨F - 1, by omega⟩
    have h5 := hS.1
    refine ⟨sm_wI w 62 21 (u32 k), ?_, GFr.s, sm_wI_eq⟩
    rw [ff_mo_farGoal_9_f, farL]
    unfold ff_mo_farGoal_9_b ff_mo_farGoal_45
    simp (disch := omega) only [u32_lit, u10, if_false, u32_le, if_pos, let_]
  | succ m ih =>
    intro k F w hk hF hS
    obtain ⟨F, rfl⟩ : ∃ G, F = G + 1 + 1 := ⟨F - 2, by omega⟩
    have h5 := hS.1
    have hS2 : SrG (sm_wI w 62 21 (u32 (k + 1))) gs H sil := hS.g GFr.s
    obtain ⟨w1, a1, a2⟩ := mo_hasWay (hS2.take sm_wI_eq (by omega))
    have hf : GFr w w1 := GFr.s.trans (GFr.n a2)
    have e1 : ff_mo_farGoal_9_f (F + 1 + 1) (u32 gs.length) (u32 k) (u32 1) w = if (wys sil (gs.take (k + 1)) H).length = 0 then ff_mo_farGoal_9_f (F + 1) (u32 gs.length) (u32 k) (u32 0) w1 else ff_mo_farGoal_9_f (F + 1) (u32 gs.length) (u32 (k + 1)) (u32 1) w1 := by
      rw [ff_mo_farGoal_9_f]
      unfold ff_mo_farGoal_9_b ff_mo_farGoal_40
      simp (disch := omega) only [u32_lit, u10, if_false, u32_le, if_neg, u32_add, let_, a1, cI_, isEmpty_len, Nat.add_zero]
      by_cases h0 : (wys sil (gs.take (k + 1)) H).length = 0
      · simp only [if_pos h0]
        rw [List.length_eq_zero_iff.mp h0]
        rfl
      · simp only [if_neg h0]
        cases hl : wys sil (gs.take (k + 1)) H with
        | nil => rw [hl] at h0; exact absurd rfl h0
        | cons q l => rfl
    rw [farL]
    by_cases h0 : (wys sil (gs.take (k + 1)) H).length = 0
    · rw [if_pos h0] at e1
      rw [if_pos h0]
      exact ⟨_, e1.trans mo_far_stop, hf.trans GFr.s, sm_wI_eq⟩
    · rw [if_neg h0] at e1
      rw [if_neg h0]
      obtain ⟨w2, b1, b2, b3⟩ := ih (k + 1) (F + 1) w1 (by omega) (by omega) (hS.g hf)
      exact ⟨w2, e1.trans b1, hf.trans b2, b3⟩
theorem mo_farGoal {gs : List Gl} {H : HV} {sil : Nat} {w : sm_Mem} (hS : Srch w gs H sil) : ∃ w1, ff_mo_farGoal w = some (.int (u32 (farL sil gs H 0 gs.length)), w1) ∧ GFr w w1 ∧ w1.1 62 21 = u32 (farL sil gs H 0 gs.length) := by
  have h5 := hS.1
  obtain ⟨w1, a1, a2, a3⟩ := mo_far_loop gs.length 0 1000000 w (by omega) (by omega) (SrG.of hS)
  refine ⟨w1, ?_, a2, a3⟩
  unfold ff_mo_farGoal ff_mo_farGoal_9
  rw [sm_N_eq, u32_lit, u32_lit, hS.2.1]
  exact a1
theorem mo_far_cnt {gs : List Gl} {H : HV} {sil : Nat} {x : Int32} : ∀ (l : List (List Nat)) (F c : Nat) (w : sm_Mem), l.length < F → NW w gs H sil l → c + l.length < 100000 → w.1 62 9 = u32 c → ∃ w1, ff_mo_far_36_f F x w = some (.int x, w1) ∧ MFr w w1 ∧ w1.2 = w.2 ∧ w1.1 62 9 = u32 (c + l.length) := by
  intro l
  induction l with
  | nil =>
    intro F c w hF hN hc hw
    obtain ⟨F, rfl⟩ : ∃ G, F = G + 1 := ⟨F - 1, by rw [List.length_nil] at hF; omega⟩
    obtain ⟨w1, a1, a2⟩ := mo_nextWay hN
    refine ⟨w1, ?_, MFr.n a2, a2.2.2, by rw [a2.2.1 9 (by decide)]; exact hw⟩
    rw [ff_mo_far_36_f]
    unfold ff_mo_far_36_b
    rw [a1]
    simp only [u32_lit, cI_, if_true]
  | cons q l ih =>
    intro F c w hF hN hc hw
    rw [List.length_cons] at hF hc
    obtain ⟨F, rfl⟩ : ∃ G, F = G + 1 := ⟨F - 1, by omega⟩
    obtain ⟨w1, a1, a2, a3, a4⟩ := mo_nextWay hN
    have e9 : w1.1 62 9 = u32 c := by rw [a2.2.1 9 (by decide)]; exact hw
    obtain ⟨w2, b1, b2, b3, b4⟩ := ih F (c + 1) (sm_wI w1 62 9 (u32 (c + 1))) (by omega) (a4.fr (fun j hj => sm_wI_nj (by omega)) (fun a ha => sm_wI_ne (by omega))) (by omega) sm_wI_eq
    refine ⟨w2, ?_, ((MFr.n a2).trans (MFr.s (by omega))).trans b2, by rw [b3, sm_wI_2]; exact a2.2.2, by rw [b4, List.length_cons]; congr 1; omega⟩
    rw [ff_mo_far_36_f]
    unfold ff_mo_far_36_b
    rw [a1]
    simp only [u32_lit, cI_, u10, if_false, e9, u32_add, let_]
    exact b1
/-- the class's search of a row of words -/
theorem words_run {r : Nat} {w : sm_Mem} {gs : List Gl} {H : HV} (hr : r < 6) (g5 : gs.length ≤ 5) (gsz : w.1 (2 + 2 * r) 1 = u32 (1 * gs.length)) (gat : ∀ j g, gs[j]? = some g → w.1 (2 + 2 * r + 1) (1 * j) = u32 g.1 ∧ (1 = 1 → g.2 = none) ∧ (1 = 2 → w.1 (2 + 2 * r + 1) (2 * j + 1) = oAns g.2) ∧ g.1 < 6 ∧ ∀ q, g.2 = some q → q < 6) (hH : CH w H) (hok : HOk H) : ∃ w1, ff_wy_runWords (2 + 2 * r) (-u32 9) w = some (.null, w1) ∧ CH w1 H ∧ AccD w1 (tre 0 gs H) ∧ AccR w1 gs.length none gs (tre 0 gs H) ∧ GW w1 gs.length none gs ∧ RFr w w1 :=
  wy_runWords (gu := none) (gs := gs) (L := gs.length) (isRow_row hr) (by omega) rfl g5 (by rw [gsz, Nat.one_mul]) (fun g hg => by cases hg) (fun j g hj => by
    have := gat j g hj
    rw [Nat.one_mul] at this
    exact ⟨this.1, this.2.1 rfl, this.2.2.2.1⟩) hH hok
theorem pairs_run {r : Nat} {w : sm_Mem} {gs : List Gl} {H : HV} (hr : r < 6) (g5 : gs.length ≤ 5) (gsz : w.1 (2 + 2 * r) 1 = u32 (2 * gs.length)) (gat : ∀ j g, gs[j]? = some g → w.1 (2 + 2 * r + 1) (2 * j) = u32 g.1 ∧ (2 = 1 → g.2 = none) ∧ (2 = 2 → w.1 (2 + 2 * r + 1) (2 * j + 1) = oAns g.2) ∧ g.1 < 6 ∧ ∀ q, g.2 = some q → q < 6) (hH : CH w H) (hok : HOk H) : ∃ w1, ff_wy_runPairs (2 + 2 * r) w = some (.null, w1) ∧ CH w1 H ∧ AccD w1 (tre 0 gs H) ∧ AccR w1 gs.length none gs (tre 0 gs H) ∧ GW w1 gs.length none gs ∧ RFr w w1 :=
  wy_runPairs (gs := gs) (L := gs.length) (isRow_row hr) (by omega) rfl g5 gsz (fun j g hj => by
    have := gat j g hj
    exact ⟨this.1, this.2.2.1 rfl, this.2.2.2.1, this.2.2.2.2⟩) hH hok
theorem op_far {r : Int32} {w : sm_Mem} (h : R w) : Both (ff_ho_far r) (ff_mo_far r) R w := by
  obtain ⟨hc, B, ds, hh⟩ := id h
  obtain ⟨hok, hn, n1, n2, n6⟩ := hh.n
  rcases aCases r 6 with hr | ⟨r, hr, -, rfl⟩
  · refine BothR_same h (-u32 1) ?_ ?_
    · unfold ff_ho_far ff_ho_refusalOfWords
      simp (disch := omega) only [u32_lit, let_, bs_, cI_, cV_, cL_, sm_rd_u, sm_wr_u, u32_add, u32_mul, u32_sub, u32_le, u32_lt, u32_eq, u32_eq_neg, u32_neg_eq, u32_neg_neg, u32_le_neg, u32_neg_lt, u32_lt_neg, u32_neg_le, u10, u01, u3n0, u1n0, u4n0, n9_lt, n1_lt, n9_neg, n1_neg, if_true, if_false, if_pos, if_neg, ne_eq, not_true_eq_false, not_false_eq_true, ho_within_bad hr]
    · unfold ff_mo_far
      simp (disch := omega) only [u32_lit, let_, bs_, cI_, cV_, cL_, sm_rd_u, sm_wr_u, u32_add, u32_mul, u32_sub, u32_le, u32_lt, u32_eq, u32_eq_neg, u32_neg_eq, u32_neg_neg, u32_le_neg, u32_neg_lt, u32_lt_neg, u32_neg_le, u10, u01, u3n0, u1n0, u4n0, n9_lt, n1_lt, n9_neg, n1_neg, if_true, if_false, if_pos, if_neg, ne_eq, not_true_eq_false, not_false_eq_true, mo_isRow_bad hr]
  have hm1 : ∀ w0, ff_mo_isRow (u32 r) w0 = some (.int (u32 1), w0) := fun w0 => mo_isRow_good hr
  rcases BothR_goal (ca := ff_ho_far (u32 r)) (ma := ff_mo_far (u32 r)) h (fun v w1 e hv => by
    unfold ff_ho_far
    simp only [u32_lit, e, cI_, if_neg hv]) (fun w0 v w1 e hv _ => by
    unfold ff_mo_far
    simp only [u32_lit, hm1, e, cI_, if_neg hv, u10, if_false]) (goal_words hc hh hr) with ⟨gs, g5, gc, gsz, gat, gm⟩ | hb
  · obtain ⟨w1, a1, a2, a3, a4, a5, a6⟩ := words_run hr g5 gsz gat hh.2.2.2.2.2.1.1 hok
    have h6 := hok.1
    have hfl := farL_le (sil := 0) (gs := gs) (H := (playV B ds).1) gs.length 0
    generalize hfd : farL 0 gs (playV B ds).1 0 gs.length = f at hfl
    have hs := wys_small (sil := 0) (gs := gs.take f) h6 (by rw [List.length_take]; omega)
    have e53 : w1.1 53 f = u32 (wys 0 (gs.take f) (playV B ds).1).length := by
      rw [a3.1.1 f (by omega), cntV_take (by omega)]
    let w2 := sm_wI w1 60 0 (u32 (wys 0 (gs.take f) (playV B ds).1).length)
    have hx : XFr w w2 := (XFr.of a6).trans XFr.told
    have hclass : ff_ho_far (u32 r) w = some (.int (u32 f), w2) := by
      have hfar : ff_wy_farthest w1 = some (.int (u32 f), w1) := by
        have := wy_far_loop h6 a5 a3 gs.length 0 1000000 (by omega) (by omega)
        unfold ff_wy_farthest ff_wy_farthest_4
        rw [sm_N_eq, u32_lit, u32_lit, ← hfd]
        exact this
      unfold ff_ho_far
      simp (disch := omega) only [u32_lit, gc, cI_, if_true, rr_row hr, bs_, a1, cV_, hfar, sm_rd_u, e53, let_]
      rfl
    obtain ⟨w3, b1, b2, b3⟩ := gm w2 (fun a h1 h2 => hx.1 a (by omega))
    obtain ⟨w4, c1, c2, c3⟩ := mo_farGoal b2
    rw [hfd] at c1 c3
    have hS5 : Srch (sm_wI w4 62 9 (u32 0)) (gs.take f) (playV B ds).1 0 := (((SrG.of b2).g c2).fr (fun j hj => sm_wI_nj (by omega)) (fun a ha => sm_wI_ne (by omega))).take (by rw [sm_wI_nj (by decide)]; exact c3) (by omega)
    obtain ⟨w5, d1, d2, d3⟩ := mo_beginWays hS5
    obtain ⟨w6, e1, e2, e3, e4⟩ := mo_far_cnt (x := u32 f) (wys 0 (gs.take f) (playV B ds).1) 1000000 0 w5 (by omega) d3 (by omega) (by rw [d2.2.1 9 (by decide), sm_wI_eq])
    have hmodel : ff_mo_far (u32 r) w2 = some (.int (u32 f), w6) := by
      unfold ff_mo_far ff_mo_far_36
      simp (disch := omega) only [u32_lit, hm1, cI_, u10, if_false, b1, if_true, c1, let_, d1, cV_]
      rw [sm_N_eq]
      exact e1
    have hl : w6.2 = w.2 := by
      rw [e3, d2.2.2, sm_wI_2, c2.2.2, b3.2.2, sm_wI_2]
      exact a6.2.2
    refine Both_mk _ w2 w6 hclass hmodel (R_done hc hh hx ?_ ((((MFr.l b3).trans (MFr.g c2)).trans MFr.told).trans ((MFr.n d2).trans e2)) ?_ ?_ ?_)
    · exact CH_fr (fun a h1 h2 => sm_wI_ne (by omega)) a2
    · rw [e4, Nat.zero_add]
      exact sm_wI_eq
    · rw [hl]; exact hc.2.2.2.1
    · rw [hl]; exact hc.2.2.2.2.1
  · exact hb
