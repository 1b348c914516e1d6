/-! pure: the reference's search, one way after the other -/
def pthR (gs : List Gl) (H : HV) : List Nat → HV
  | [] => H
  | i :: rp => pushV (pthR gs H rp) i (gs.getD rp.length (0, none)).1
theorem pthR_n {gs : List Gl} {H : HV} : ∀ (rp : List Nat), hN (pthR gs H rp) = hN H ∧ hK (pthR gs H rp) = hK H ∧ hW (pthR gs H rp) = hW H ∧ hR (pthR gs H rp) = hR H ∧ hH (pthR gs H rp) = hH H ∧ (hO (pthR gs H rp)).length = (hO H).length + rp.length
  | [] => ⟨rfl, rfl, rfl, rfl, rfl, rfl⟩
  | i :: rp => by
    obtain ⟨a1, a2, a3, a4, a5, a6⟩ := pthR_n (gs := gs) (H := H) rp
    refine ⟨a1, a2, a3, a4, a5, ?_⟩
    show (_ :: hO (pthR gs H rp)).length = _
    rw [List.length_cons, List.length_cons, a6]
    omega
/-- the reference's house, perhaps with a guest -/
def MSe (w : sm_Mem) (H : HV) : Prop := ∃ n, w.1 62 1 = u32 n ∧ n ≤ hN H ∧ hN H ≤ n + 1 ∧ (∀ i, i < hN H → w.1 64 i = u32 (hK H i) ∧ w.1 65 i = u32 (hW H i)) ∧ (∀ i, i < n → w.1 63 (20 + i) = u32 (hR H i) ∧ w.1 63 (26 + i) = u32 (hB H i)) ∧ (n < hN H → w.1 62 24 = u32 (hR H n) ∧ hB H n = 9) ∧ w.1 63 1 = u32 (hH H) ∧ w.1 63 2 = u32 (hO H).length ∧ ordM w 0 (hO H)
def Srch (w : sm_Mem) (gs : List Gl) (H : HV) (sil : Nat) : Prop := gs.length ≤ 5 ∧ w.1 62 21 = u32 gs.length ∧ w.1 62 22 = u32 (hN H) ∧ w.1 62 23 = u32 sil ∧ sil < 64 ∧ HOk H ∧ (∀ j g, gs[j]? = some g → w.1 73 j = u32 g.1 ∧ w.1 74 j = oAns g.2 ∧ g.1 < 6 ∧ ∀ q, g.2 = some q → q < 6) ∧ MSe w H
/-- what a search leaves -/
def NFr (w w1 : sm_Mem) : Prop := (∀ a, a ≠ 62 → a ≠ 75 → a ≠ 76 → w1.1 a = w.1 a) ∧ (∀ j, j ≠ 27 → w1.1 62 j = w.1 62 j) ∧ w1.2 = w.2
theorem NFr.refl {w : sm_Mem} : NFr w w := ⟨fun _ _ _ _ => rfl, fun _ _ => rfl, rfl⟩
theorem NFr.trans {w w1 w2 : sm_Mem} (h1 : NFr w w1) (h2 : NFr w1 w2) : NFr w w2 := ⟨fun a x y z => (h2.1 a x y z).trans (h1.1 a x y z), fun j hj => (h2.2.1 j hj).trans (h1.2.1 j hj), h2.2.2.trans h1.2.2⟩
theorem NFr.w5 {w : sm_Mem} {j : Nat} {x : Int32} : NFr w (sm_wI w 75 j x) := ⟨fun a _ h _ => sm_wI_ne h, fun i _ => by rw [sm_wI_ne (by decide)], rfl⟩
theorem NFr.w6 {w : sm_Mem} {j : Nat} {x : Int32} : NFr w (sm_wI w 76 j x) := ⟨fun a _ _ h => sm_wI_ne h, fun i _ => by rw [sm_wI_ne (by decide)], rfl⟩
theorem NFr.w27 {w : sm_Mem} {x : Int32} : NFr w (sm_wI w 62 27 x) := ⟨fun a h _ _ => sm_wI_ne h, fun i h => sm_wI_nj h, rfl⟩
theorem MSe_fr {w w1 : sm_Mem} {H : HV} (h62 : w1.1 62 1 = w.1 62 1) (h24 : w1.1 62 24 = w.1 62 24) (h63 : w1.1 63 = w.1 63) (h64 : w1.1 64 = w.1 64) (h65 : w1.1 65 = w.1 65) (h : MSe w H) (hok : HOk H) : MSe w1 H := by
  obtain ⟨n, a1, a2, a3, a4, a5, a6, a7, a8, a9⟩ := h
  refine ⟨n, by rw [h62]; exact a1, a2, a3, by rw [h64, h65]; exact a4, by rw [h63]; exact a5, by rw [h24]; exact a6, by rw [h63]; exact a7, by rw [h63]; exact a8, ordM_fr _ hok.2.2.2.1 (fun j _ _ => by rw [h63]) a9⟩
theorem Srch.fr {w w1 : sm_Mem} {gs : List Gl} {H : HV} {sil : Nat} (h : Srch w gs H sil) (h62 : ∀ j, (j = 1 ∨ j = 21 ∨ j = 22 ∨ j = 23 ∨ j = 24) → w1.1 62 j = w.1 62 j) (ha : ∀ a, (63 ≤ a ∧ a < 66) ∨ a = 73 ∨ a = 74 → w1.1 a = w.1 a) : Srch w1 gs H sil := by
  obtain ⟨a1, a2, a3, a4, a5, a6, a7, a8⟩ := h
  refine ⟨a1, by rw [h62 21 (by omega)]; exact a2, by rw [h62 22 (by omega)]; exact a3, by rw [h62 23 (by omega)]; exact a4, a5, a6, by rw [ha 73 (by omega), ha 74 (by omega)]; exact a7, MSe_fr (h62 1 (by omega)) (h62 24 (by omega)) (ha 63 (by omega)) (ha 64 (by omega)) (ha 65 (by omega)) a8 a6⟩
theorem Srch.nfr {w w1 : sm_Mem} {gs : List Gl} {H : HV} {sil : Nat} (h : Srch w gs H sil) (hf : NFr w w1) : Srch w1 gs H sil := h.fr (fun j hj => hf.2.1 j (by omega)) (fun a ha => hf.1 a (by omega) (by omega) (by omega))
/-- the path's cells -/
def CP (w : sm_Mem) (gs : List Gl) (H : HV) : List Nat → Prop
  | [] => True
  | i :: rp => w.1 75 rp.length = u32 i ∧ i < hN H ∧ 0 < hB (pthR gs H rp) i ∧ HOk (pthR gs H rp) ∧ CP w gs H rp
theorem CP_fr {w w1 : sm_Mem} {gs : List Gl} {H : HV} : ∀ (rp : List Nat), (∀ j, j < rp.length → w1.1 75 j = w.1 75 j) → CP w gs H rp → CP w1 gs H rp
  | [], _, _ => trivial
  | i :: rp, h, hc => by
    rw [List.length_cons] at h
    exact ⟨by rw [h rp.length (by omega)]; exact hc.1, hc.2.1, hc.2.2.1, hc.2.2.2.1, CP_fr rp (fun j hj => h j (by omega)) hc.2.2.2.2⟩
theorem CP_at {w : sm_Mem} {gs : List Gl} {H : HV} : ∀ (rp : List Nat), CP w gs H rp → ∀ j x, rp.reverse[j]? = some x → w.1 75 j = u32 x ∧ x < hN H
  | [], _, j, x, h => by simp at h
  | i :: rp, hc, j, x, h => by
    rw [List.reverse_cons] at h
    by_cases hj : j < rp.reverse.length
    · rw [List.getElem?_append_left hj] at h
      exact CP_at rp hc.2.2.2.2 j x h
    · have hl := (List.getElem?_eq_some_iff.mp h).1
      rw [List.length_append, List.length_singleton] at hl
      have hj2 : j = rp.length := by rw [List.length_reverse] at hj hl; omega
      rw [List.getElem?_append_right (by omega), List.length_reverse, hj2, Nat.sub_self] at h
      cases h
      rw [hj2]
      exact ⟨hc.1, hc.2.1⟩
def StR (w : sm_Mem) (gs : List Gl) (H : HV) (rp : List Nat) : Prop := HOk (pthR gs H rp) ∧ (∀ i, i < hN H → w.1 76 i = u32 (hB (pthR gs H rp) i)) ∧ CP w gs H rp
theorem ms_lastWord {H : HV} {w : sm_Mem} (h4 : w.1 63 2 = u32 (hO H).length) (h5 : ordM w 0 (hO H)) (hok : HOk H) : ff_mo_lastWord (u32 0) w = some (.int (oAns (lastW (hO H))), w) := by
  have h8 := hok.2.2.2.1
  unfold ff_mo_lastWord
  cases ho : hO H with
  | nil =>
    rw [ho] at h4
    simp (disch := omega) only [u32_lit, sm_let_eq, sm_bind_some, sm_cI_some, sm_cV_some, sm_cL_some, sm_rd_u, sm_wr_u, u32_add, u32_mul, u32_sub, u32_le, u32_lt, u32_eq, u32_eq_neg, u32_neg_eq, u32_neg_neg, u32_le_neg, u32_neg_lt, u32_lt_neg, u32_neg_le, u10, u01, u3n0, u1n0, u4n0, n9_lt, n1_lt, n9_neg, n1_neg, if_true, if_false, if_pos, if_neg, ne_eq, not_true_eq_false, not_false_eq_true, h4, List.length_nil]
    rfl
  | cons p r =>
    rw [ho] at h5 h8 h4
    rw [List.length_cons] at h8 h4
    have e := h5.1
    simp (disch := omega) only [u32_lit, sm_let_eq, sm_bind_some, sm_cI_some, sm_cV_some, sm_cL_some, sm_rd_u, sm_wr_u, u32_add, u32_mul, u32_sub, u32_le, u32_lt, u32_eq, u32_eq_neg, u32_neg_eq, u32_neg_neg, u32_le_neg, u32_neg_lt, u32_lt_neg, u32_neg_le, u10, u01, u3n0, u1n0, u4n0, n9_lt, n1_lt, n9_neg, n1_neg, if_true, if_false, if_pos, if_neg, ne_eq, not_true_eq_false, not_false_eq_true, h4]
    rw [show 0 + 4 + (r.length + 1) - 1 = 0 + 4 + r.length by omega, e]
    rfl
theorem ms_lastWho {H : HV} {w : sm_Mem} (h4 : w.1 63 2 = u32 (hO H).length) (h5 : ordM w 0 (hO H)) (hok : HOk H) : ff_mo_lastWho (u32 0) w = some (.int (oAns (lastWho (hO H))), w) := by
  have h8 := hok.2.2.2.1
  unfold ff_mo_lastWho
  cases ho : hO H with
  | nil =>
    rw [ho] at h4
    simp (disch := omega) only [u32_lit, sm_let_eq, sm_bind_some, sm_cI_some, sm_cV_some, sm_cL_some, sm_rd_u, sm_wr_u, u32_add, u32_mul, u32_sub, u32_le, u32_lt, u32_eq, u32_eq_neg, u32_neg_eq, u32_neg_neg, u32_le_neg, u32_neg_lt, u32_lt_neg, u32_neg_le, u10, u01, u3n0, u1n0, u4n0, n9_lt, n1_lt, n9_neg, n1_neg, if_true, if_false, if_pos, if_neg, ne_eq, not_true_eq_false, not_false_eq_true, h4, List.length_nil]
    rfl
  | cons p r =>
    rw [ho] at h5 h8 h4
    rw [List.length_cons] at h8 h4
    have e := h5.2.1
    simp (disch := omega) only [u32_lit, sm_let_eq, sm_bind_some, sm_cI_some, sm_cV_some, sm_cL_some, sm_rd_u, sm_wr_u, u32_add, u32_mul, u32_sub, u32_le, u32_lt, u32_eq, u32_eq_neg, u32_neg_eq, u32_neg_neg, u32_le_neg, u32_neg_lt, u32_lt_neg, u32_neg_le, u10, u01, u3n0, u1n0, u4n0, n9_lt, n1_lt, n9_neg, n1_neg, if_true, if_false, if_pos, if_neg, ne_eq, not_true_eq_false, not_false_eq_true, h4]
    rw [show 0 + 12 + (r.length + 1) - 1 = 0 + 12 + r.length by omega, e]
    rfl
theorem HOk.who {H : HV} (h : HOk H) : ∀ l, lastWho (hO H) = some l → l < hN H := by
  intro l hl
  obtain ⟨-, -, -, -, h5⟩ := h
  cases ho : hO H with
  | nil => rw [ho] at hl; cases hl
  | cons p r =>
    rw [ho] at hl
    cases hl
    exact (h5 p (by rw [ho]; exact List.mem_cons_self)).2
theorem ms_roomOf {H : HV} {w : sm_Mem} {i : Nat} (h : MSe w H) (hok : HOk H) (hi : i < hN H) : ff_mo_roomOf (u32 i) w = some (.int (u32 (hR H i)), w) := by
  obtain ⟨n, a1, a2, a3, a4, a5, a6, -⟩ := h
  have h6 := hok.1
  unfold ff_mo_roomOf
  by_cases e : i = n
  · subst e
    simp (disch := omega) only [u32_lit, sm_let_eq, sm_bind_some, sm_cI_some, sm_cV_some, sm_cL_some, sm_rd_u, sm_wr_u, u32_add, u32_mul, u32_sub, u32_le, u32_lt, u32_eq, u32_eq_neg, u32_neg_eq, u32_neg_neg, u32_le_neg, u32_neg_lt, u32_lt_neg, u32_neg_le, u10, u01, u3n0, u1n0, u4n0, n9_lt, n1_lt, n9_neg, n1_neg, if_true, if_false, if_pos, if_neg, ne_eq, not_true_eq_false, not_false_eq_true, a1]
    rw [(a6 hi).1]
  · simp (disch := omega) only [u32_lit, sm_let_eq, sm_bind_some, sm_cI_some, sm_cV_some, sm_cL_some, sm_rd_u, sm_wr_u, u32_add, u32_mul, u32_sub, u32_le, u32_lt, u32_eq, u32_eq_neg, u32_neg_eq, u32_neg_neg, u32_le_neg, u32_neg_lt, u32_lt_neg, u32_neg_le, u10, u01, u3n0, u1n0, u4n0, n9_lt, n1_lt, n9_neg, n1_neg, if_true, if_false, if_pos, if_neg, ne_eq, not_true_eq_false, not_false_eq_true, a1, (a5 i (by omega)).1]
theorem ma_e0 {k : Nat} (hk : k < 5) : (u32 (k + 1) = u32 0) = False := by
  rw [u32_eq (by omega) (by omega)]
  exact eq_false (Nat.succ_ne_zero k)
theorem ma_e1 {k : Nat} : u32 (k + 1) - u32 1 = u32 k := by
  rw [← u32_add, Int32.add_sub_cancel]
theorem ma_e2 {w : sm_Mem} {k x : Int32} (e0 : ¬ x = 0) {i a b : Int32} (e1 : x - 1 = k) (h1 : sm_rd w 75 6 k = some a) (h2 : sm_rd w 73 5 k = some b) : ff_mo_mayAt x i w = ff_mo_mayAt_41 x i a b w := by
  have e20 : ff_mo_mayAt_20 x i a w = ff_mo_mayAt_41 x i a b w := by
    rw [ff_mo_mayAt_20, if_neg e0, e1, h2]
    exact sm_bind_some
  rw [ff_mo_mayAt, if_neg e0, e1, h1, ← e20]
  exact sm_bind_some
theorem mayAt_cons {w : sm_Mem} {k i a b : Nat} (h1 : w.1 75 k = u32 a) (h2 : w.1 73 k = u32 b) (hk : k < 5) : ff_mo_mayAt (u32 (k + 1)) (u32 i) w = ff_mo_mayAt_41 (u32 (k + 1)) (u32 i) (u32 a) (u32 b) w := ma_e2 (by rw [u32_lit, ma_e0 hk]; exact id) ma_e1 (by rw [sm_rd_u (by omega) (by omega), h1]) (by rw [sm_rd_u (by omega) (by omega), h2])
theorem mayAt_nil {w : sm_Mem} {i : Nat} {a b : Int32} (h1 : ff_mo_lastWho (u32 0) w = some (.int a, w)) (h2 : ff_mo_lastWord (u32 0) w = some (.int b, w)) : ff_mo_mayAt (u32 0) (u32 i) w = ff_mo_mayAt_41 (u32 0) (u32 i) a b w := by
  unfold ff_mo_mayAt ff_mo_mayAt_20
  simp only [u32_lit, if_true, h1, h2, sm_cI_some]
theorem pthR_last {w : sm_Mem} {gs : List Gl} {H : HV} {sil : Nat} {rp : List Nat} (hS : Srch w gs H sil) (hc : StR w gs H rp) (hk : rp.length < gs.length) {i : Nat} : ff_mo_mayAt (u32 rp.length) (u32 i) w = ff_mo_mayAt_41 (u32 rp.length) (u32 i) (oAns (lastWho (hO (pthR gs H rp)))) (oAns (lastW (hO (pthR gs H rp)))) w := by
  obtain ⟨h1, h2, h3, h4, h5, h6, h7, n, a1, a2, a3, a4, a5, a6, a7, a8, a9⟩ := hS
  cases rp with
  | nil => exact mayAt_nil (ms_lastWho a8 a9 h6) (ms_lastWord a8 a9 h6)
  | cons j r =>
    have hr : r.length < gs.length := Nat.lt_of_succ_lt hk
    have e2 : gs[r.length]? = some gs[r.length] := List.getElem?_eq_getElem hr
    have e4 : gs.getD r.length (0, none) = gs[r.length] := by rw [List.getD_eq_getElem?_getD, e2]; rfl
    have e6 : lastW (hO (pthR gs H (j :: r))) = some gs[r.length].1 := by rw [← e4]; rfl
    rw [e6]
    exact mayAt_cons hc.2.2.1 (h7 _ _ e2).1 (by omega)
theorem ms_mayAt {w : sm_Mem} {gs : List Gl} {H : HV} {sil : Nat} {rp : List Nat} {i : Nat} {g : Gl} (hS : Srch w gs H sil) (hc : StR w gs H rp) (hk : gs[rp.length]? = some g) (hi : i < hN H) : ff_mo_mayAt (u32 rp.length) (u32 i) w = some (.int (u32 (stepV sil (pthR gs H rp) i g).toNat), w) := by
  have hkl := (List.getElem?_eq_some_iff.mp hk).1
  rw [pthR_last hS hc hkl]
  obtain ⟨p1, p2, p3, p4, p5, p6⟩ := pthR_n (gs := gs) (H := H) rp
  obtain ⟨c1, c2, c3⟩ := hc
  obtain ⟨h1, h2, h3, h4, h5, h6, h7, h8⟩ := hS
  have hms := h8
  obtain ⟨n, a1, a2, a3, a4, a5, a6, a7, a8, a9⟩ := h8
  obtain ⟨g1, g2, g3, g4, g5⟩ := h6
  have hki := g2 i hi
  have hg := h7 _ _ hk
  have hb9 : hB (pthR gs H rp) i ≤ 9 := (c1.2.1 i (by rw [p1]; exact hi)).2.2.2
  have hlen8 := c1.2.2.2.1
  have hwho := c1.who
  rw [p1] at hwho
  have hlw := c1.last
  have t132 : ∀ o, (∀ l, o = some l → l < 6) → ff_mo_mayAt_132 (u32 rp.length) (u32 i) (oAns o) w = some (.int (u32 (ableV (hK H i) (hW H i) (hH H) o g.1).toNat), w) := by
    intro o ho
    unfold ff_mo_mayAt_132
    simp (disch := omega) only [u32_lit, sm_rd_u, sm_bind_some, (a4 i hi).1, (a4 i hi).2, hg.1, a7, mo_isAble hki.1 hki.2.1 hg.2.2.1 ho g3, sm_cI_some]
    cases ableV (hK H i) (hW H i) (hH H) o g.1 <;> first | exact rz_0 | exact rz_1
  have t108 : ff_mo_mayAt_108 (u32 rp.length) (u32 i) (oAns (lastWho (hO (pthR gs H rp)))) (oAns (lastW (hO (pthR gs H rp)))) w = some (.int (u32 ((match hO (pthR gs H rp) with | [] => true | p :: _ => nearV (hR H p.2) (hR H i)) && ableV (hK H i) (hW H i) (hH H) (lastW (hO (pthR gs H rp))) g.1).toNat), w) := by
    unfold ff_mo_mayAt_108
    cases ho : hO (pthR gs H rp) with
    | nil =>
      rw [ho] at hlw
      have e0 : (oAns (lastWho []) = -u32 9) = True := eq_true rfl
      simp only [u32_lit, e0, if_true, t132 _ hlw, Bool.true_and]
    | cons p r =>
      rw [ho] at hlw hwho
      have hp := hwho p.2 rfl
      have e2 : (oAns (lastWho (p :: r)) = -u32 9) = False := u32_eq_neg (by omega) (by decide) (by decide)
      have e3 : oAns (lastWho (p :: r)) = u32 p.2 := rfl
      simp only [u32_lit, e2, if_false]
      simp (disch := omega) only [e3, ms_roomOf hms ⟨g1, g2, g3, g4, g5⟩ hi, ms_roomOf hms ⟨g1, g2, g3, g4, g5⟩ hp, sm_cI_some, mo_areNear hki.2.2.1 (g2 p.2 hp).2.2.1, u32_bool_eq0, t132 _ hlw]
      rw [nearV_comm]
      cases nearV (hR H p.2) (hR H i) with
      | false => rfl
      | true => rw [if_neg (by decide), Bool.true_and]
  unfold ff_mo_mayAt_41 stepV roomV canV freeV besideV
  have hs6 : i < 6 := by omega
  simp (disch := omega) only [u32_lit, sm_rd_u, sm_bind_some, a8, u32_add, u32_le, c2 i hi, p2, p3, p4, p5]
  by_cases hq : 8 ≤ (hO H).length + rp.length
  · rw [if_pos hq]
    have : decide ((hO (pthR gs H rp)).length < 8) = false := by rw [p6]; simp; omega
    rw [this]
    simp [u32]
  rw [if_neg hq]
  have e8 : decide ((hO (pthR gs H rp)).length < 8) = true := by rw [p6]; simp; omega
  rw [e8, Bool.true_and]
  simp (disch := omega) only [u32_eq]
  by_cases hb0 : hB (pthR gs H rp) i = 0
  · rw [if_pos hb0]
    have eb : decide (0 < hB (pthR gs H rp) i) = false := by simp [hb0]
    rw [eb]
    simp [u32]
  rw [if_neg hb0]
  have eb : decide (0 < hB (pthR gs H rp) i) = true := by simp; omega
  rw [eb, Bool.true_and, h4, mo_has h5 hs6, sm_cI_some]
  simp only [u32_bool_eq0]
  cases hsi : sil.testBit i with
  | true =>
    rw [if_neg (by decide)]
    simp [u32]
  | false =>
    rw [if_pos rfl]
    have key : ∀ rest : sm_R, (rest = some (.int (u32 ((match hO (pthR gs H rp) with | [] => true | p :: _ => nearV (hR H p.2) (hR H i)) && ableV (hK H i) (hW H i) (hH H) (lastW (hO (pthR gs H rp))) g.1).toNat), w)) → (if oAns (lastWho (hO (pthR gs H rp))) = u32 i then some (.int (u32 0), w) else rest) = some (.int (u32 ((match hO (pthR gs H rp) with | [] => true | p :: _ => p.2 != i && nearV (hR H p.2) (hR H i)) && ableV (hK H i) (hW H i) (hH H) (lastW (hO (pthR gs H rp))) g.1).toNat), w) := by
      intro rest hr
      rw [hr]
      cases ho : hO (pthR gs H rp) with
      | nil =>
        have e1 : (oAns (lastWho []) = u32 i) = False := u32_neg_eq (by omega) (by decide) (by decide)
        rw [if_neg (by rw [e1]; exact id)]
      | cons p r =>
        rw [ho] at hwho
        have hp := hwho p.2 rfl
        have e1 : (oAns (lastWho (p :: r)) = u32 i) = (p.2 = i) := u32_eq (by omega) (by omega)
        simp only [e1]
        by_cases hpi : p.2 = i
        · rw [if_pos hpi]
          have : (p.2 != i) = false := by simp [hpi]
          rw [this]
          rfl
        · rw [if_neg hpi]
          have : (p.2 != i) = true := by simpa using hpi
          rw [this, Bool.true_and]
    have hcond : ∀ r1 r2 : sm_R, (if oAns (lastWho (hO (pthR gs H rp))) = u32 i then some (.int (u32 0), w) else if oAns g.2 = -u32 9 then r1 else r2) = if oAns g.2 = -u32 9 then (if oAns (lastWho (hO (pthR gs H rp))) = u32 i then some (.int (u32 0), w) else r1) else (if oAns (lastWho (hO (pthR gs H rp))) = u32 i then some (.int (u32 0), w) else r2) := by
      intro r1 r2
      by_cases x : oAns g.2 = -u32 9
      · simp only [if_pos x]
      · simp only [if_neg x]
    simp (disch := omega) only [hg.2.1, t108, ms_roomOf hms ⟨g1, g2, g3, g4, g5⟩ hi, sm_cI_some, hcond]
    cases hg2 : g.2 with
    | none =>
      have e0 : (oAns none = -u32 9) = True := eq_true rfl
      simp only [e0, if_true]
      rw [key _ rfl]
      rfl
    | some q =>
      have hq6 := hg.2.2.2 q hg2
      have e1 : (oAns (some q) = -u32 9) = False := u32_eq_neg (by omega) (by decide) (by decide)
      have e2 : (u32 (hR H i) = oAns (some q)) = (hR H i = q) := u32_eq (by omega) (by omega)
      simp only [e1, if_false, e2]
      by_cases hr : hR H i = q
      · simp only [if_pos hr]
        rw [key _ rfl, decide_eq_true hr]
        rfl
      · simp only [if_neg hr, ite_self]
        simp [hr, u32]
theorem ms_nextSpeaker {w : sm_Mem} {gs : List Gl} {H : HV} {sil : Nat} {rp : List Nat} {g : Gl} (hS : Srch w gs H sil) (hc : StR w gs H rp) (hk : gs[rp.length]? = some g) : ∀ (m c F : Nat), c + m = hN H → m < F → ∃ j, c ≤ j ∧ j ≤ hN H ∧ (∀ i, c ≤ i → i < j → stepV sil (pthR gs H rp) i g = false) ∧ (j < hN H → stepV sil (pthR gs H rp) j g = true) ∧ ff_mo_nextSpeaker_2_f F (u32 rp.length) (u32 c) w = some (.int (u32 j), w) := by
  have h6 := hS.2.2.2.2.2.1.1
  have h22 := hS.2.2.1
  intro m
  induction m with
  | zero =>
    intro c F hm hF
    obtain ⟨F, rfl⟩ : ∃ G, F = G + 1 := ⟨F - 1, by omega⟩
    refine ⟨c, Nat.le_refl _, by omega, fun i a b => absurd a (by omega), fun h => absurd h (by omega), ?_⟩
    rw [ff_mo_nextSpeaker_2_f]
    unfold ff_mo_nextSpeaker_2_b
    simp (disch := omega) only [h22, u32_le, if_pos]
  | succ m ih =>
    intro c F hm hF
    obtain ⟨F, rfl⟩ : ∃ G, F = G + 1 := ⟨F - 1, by omega⟩
    have hcn : c < hN H := by omega
    have e := ms_mayAt hS hc hk hcn
    have e1 : ∀ F, ff_mo_nextSpeaker_2_f (F + 1) (u32 rp.length) (u32 c) w = if stepV sil (pthR gs H rp) c g = false then ff_mo_nextSpeaker_2_f F (u32 rp.length) (u32 (c + 1)) w else some (.int (u32 c), w) := by
      intro F
      rw [ff_mo_nextSpeaker_2_f]
      unfold ff_mo_nextSpeaker_2_b
      simp (disch := omega) only [h22, u32_lit, u32_le, if_neg, e, sm_cI_some, u32_bool_eq0, u32_add]
    cases hs : stepV sil (pthR gs H rp) c g with
    | true =>
      refine ⟨c, Nat.le_refl _, by omega, fun i a b => absurd a (by omega), fun _ => hs, ?_⟩
      rw [e1, hs, if_neg (by decide)]
    | false =>
      obtain ⟨j, a1, a2, a3, a4, a5⟩ := ih (c + 1) F (by omega) (by omega)
      refine ⟨j, by omega, a2, fun i x y => ?_, a4, ?_⟩
      · by_cases ei : i = c
        · subst ei; exact hs
        · exact a3 i (by omega) y
      · rw [e1, hs, if_pos rfl]
        exact a5
/-! what is still to come -/
def frF (sil : Nat) (gs : List Gl) (H : HV) (rp : List Nat) (j : Nat) : List (List Nat) := if stepV sil (pthR gs H rp) j (gs.getD rp.length (0, none)) = true then (wys sil (gs.drop (rp.length + 1)) (pthR gs H (j :: rp))).map (fun q => rp.reverse ++ j :: q) else []
def rem (sil : Nat) (gs : List Gl) (H : HV) : List Nat → Nat → List (List Nat)
  | [], c => lpF (frF sil gs H []) c (hN H - c)
  | i :: rp, c => lpF (frF sil gs H (i :: rp)) c (hN H - c) ++ rem sil gs H rp (i + 1)
def back (sil : Nat) (gs : List Gl) (H : HV) : List Nat → List (List Nat)
  | [] => []
  | i :: rp => rem sil gs H rp (i + 1)
theorem rem_eq {sil : Nat} {gs : List Gl} {H : HV} (rp : List Nat) (c : Nat) : rem sil gs H rp c = lpF (frF sil gs H rp) c (hN H - c) ++ back sil gs H rp := by
  cases rp with
  | nil => rw [rem, back, List.append_nil]
  | cons i rp => rw [rem, back]
theorem rem_none {sil : Nat} {gs : List Gl} {H : HV} {rp : List Nat} {c : Nat} {g : Gl} (hk : gs[rp.length]? = some g) (h : ∀ i, c ≤ i → i < hN H → stepV sil (pthR gs H rp) i g = false) : rem sil gs H rp c = back sil gs H rp := by
  rw [rem_eq, lpF_nil]
  · rfl
  · intro j h1 h2
    unfold frF
    rw [List.getD_eq_getElem?_getD, hk]
    show (if stepV sil (pthR gs H rp) j g = true then _ else _) = _
    rw [h j h1 (by omega), if_neg (by decide)]
theorem lpF_skip {α : Type} {f : Nat → List α} : ∀ (k c m : Nat), (∀ j, c ≤ j → j < c + k → f j = []) → lpF f c (k + m) = lpF f (c + k) m
  | 0, c, m, _ => by rw [Nat.zero_add, Nat.add_zero]
  | k + 1, c, m, h => by
    rw [show k + 1 + m = (k + m) + 1 by omega, lpF, h c (Nat.le_refl _) (by omega), lpF_skip k (c + 1) m (fun j a b => h j (by omega) (by omega)), show c + 1 + k = c + (k + 1) by omega]
    rfl
theorem rem_found {sil : Nat} {gs : List Gl} {H : HV} {rp : List Nat} {c j : Nat} {g : Gl} (hk : gs[rp.length]? = some g) (hcj : c ≤ j) (hj : j < hN H) (h : ∀ i, c ≤ i → i < j → stepV sil (pthR gs H rp) i g = false) (hs : stepV sil (pthR gs H rp) j g = true) : rem sil gs H rp c = (wys sil (gs.drop (rp.length + 1)) (pthR gs H (j :: rp))).map (fun q => rp.reverse ++ j :: q) ++ rem sil gs H rp (j + 1) := by
  have hg : gs.getD rp.length (0, none) = g := by rw [List.getD_eq_getElem?_getD, hk]; rfl
  rw [rem_eq, rem_eq rp (j + 1), show hN H - c = (j - c) + ((hN H - (j + 1)) + 1) by omega, lpF_skip (j - c) c _ (fun i a b => by
    unfold frF
    rw [hg, h i a (by omega), if_neg (by decide)]), show c + (j - c) = j by omega, lpF, List.append_assoc]
  refine congrArg (fun l => l ++ _) ?_
  unfold frF
  rw [hg, hs, if_pos rfl]
theorem rem_full {sil : Nat} {gs : List Gl} {H : HV} {rp : List Nat} {c j : Nat} {g : Gl} (hk : gs[rp.length]? = some g) (hl : rp.length + 1 = gs.length) (hcj : c ≤ j) (hj : j < hN H) (h : ∀ i, c ≤ i → i < j → stepV sil (pthR gs H rp) i g = false) (hs : stepV sil (pthR gs H rp) j g = true) : rem sil gs H rp c = (j :: rp).reverse :: rem sil gs H rp (j + 1) := by
  rw [rem_found hk hcj hj h hs, List.drop_eq_nil_of_le (by omega), wys, List.reverse_cons]
  rfl
theorem rem_down {sil : Nat} {gs : List Gl} {H : HV} {rp : List Nat} {c j : Nat} {g : Gl} (hk : gs[rp.length]? = some g) (hl : rp.length + 1 < gs.length) (hcj : c ≤ j) (hj : j < hN H) (h : ∀ i, c ≤ i → i < j → stepV sil (pthR gs H rp) i g = false) (hs : stepV sil (pthR gs H rp) j g = true) : rem sil gs H rp c = rem sil gs H (j :: rp) 0 := by
  rw [rem_found hk hcj hj h hs, rem_eq (j :: rp), back]
  refine congrArg (fun l => l ++ _) ?_
  have e2 : gs[rp.length + 1]? = some gs[rp.length + 1] := List.getElem?_eq_getElem hl
  rw [← List.getElem_cons_drop hl, wys, lpF_map, (pthR_n (j :: rp)).1, Nat.sub_zero]
  refine lpF_congr _ _ (fun i _ _ => ?_)
  unfold frF
  rw [List.length_cons, List.getD_eq_getElem?_getD, e2]
  show (if stepV sil (pthR gs H (j :: rp)) i gs[rp.length + 1] = true then _ else _ : List (List Nat)).map _ = _
  have e3 : pthR gs H (i :: j :: rp) = pushV (pthR gs H (j :: rp)) i gs[rp.length + 1].1 := by
    show pushV _ i (gs.getD (rp.length + 1) (0, none)).1 = _
    rw [List.getD_eq_getElem?_getD, e2]
    rfl
  rw [e3]
  show _ = (if stepV sil (pthR gs H (j :: rp)) i gs[rp.length + 1] = true then _ else _)
  split
  · rw [List.map_map]
    refine List.map_congr_left (fun q _ => ?_)
    show rp.reverse ++ j :: i :: q = (j :: rp).reverse ++ i :: q
    rw [List.reverse_cons, List.append_assoc]
    rfl
  · rfl
theorem rem_start {sil : Nat} {gs : List Gl} {H : HV} (h : 0 < gs.length) : rem sil gs H [] 0 = wys sil gs H := by
  cases gs with
  | nil => cases h
  | cons g gs =>
    rw [rem, wys, Nat.sub_zero]
    refine lpF_congr _ _ (fun i _ _ => ?_)
    unfold frF
    rfl
/-- a bound of the steps still to do -/
def phi : List Nat → Nat → Nat
  | [], c => (7 - c) * 8 ^ 5
  | i :: rp, c => (7 - c) * 8 ^ (4 - rp.length) + phi rp (i + 1)
theorem phi_pos {rp : List Nat} {c : Nat} (hc : c ≤ 6) : 0 < phi rp c := by
  have h8 : ∀ n, 0 < 8 ^ n := fun n => Nat.pow_pos (by decide)
  cases rp with
  | nil => exact Nat.mul_pos (by omega) (h8 _)
  | cons i rp => exact Nat.lt_of_lt_of_le (Nat.mul_pos (by omega) (h8 _)) (Nat.le_add_right _ _)
theorem phi_up {i c : Nat} {rp : List Nat} (hc : c ≤ 6) : phi rp (i + 1) < phi (i :: rp) c := by
  have h8 : ∀ n, 0 < 8 ^ n := fun n => Nat.pow_pos (by decide)
  have : 0 < (7 - c) * 8 ^ (4 - rp.length) := Nat.mul_pos (by omega) (h8 _)
  rw [phi]
  omega
theorem phi_mono {c d : Nat} (rp : List Nat) (h : c ≤ d) : phi rp d ≤ phi rp c := by
  have key : ∀ n, (7 - d) * 8 ^ n ≤ (7 - c) * 8 ^ n := fun n => Nat.mul_le_mul_right _ (by omega)
  cases rp with
  | nil => exact key _
  | cons i rp => exact Nat.add_le_add_right (key _) _
theorem phi_next {c d : Nat} (rp : List Nat) (h : c < d) (hd : d ≤ 7) : phi rp d < phi rp c := by
  have key : ∀ n, (7 - d) * 8 ^ n < (7 - c) * 8 ^ n := fun n => Nat.mul_lt_mul_of_pos_right (by omega) (Nat.pow_pos (by decide))
  cases rp with
  | nil => exact key _
  | cons i rp => exact Nat.add_lt_add_right (key _) _
theorem phi_down {c j : Nat} (rp : List Nat) (hcj : c ≤ j) (hj : j < 6) (hr : rp.length < 5) : phi (j :: rp) 0 < phi rp c := by
  have key : ∀ n, 7 * 8 ^ n + (7 - (j + 1)) * 8 ^ (n + 1) < (7 - c) * 8 ^ (n + 1) := by
    intro n
    have h8 : 0 < 8 ^ n := Nat.pow_pos (by decide)
    have e : 7 - c = (7 - (j + 1)) + (1 + (j - c)) := by omega
    rw [e, Nat.add_mul, Nat.pow_succ, Nat.add_mul, Nat.one_mul]
    have h9 : 0 ≤ (j - c) * (8 ^ n * 8) := Nat.zero_le _
    omega
  rw [phi, Nat.sub_zero]
  cases rp with
  | nil => exact key 4
  | cons i rp =>
    rw [List.length_cons] at hr ⊢
    rw [phi, phi]
    have := key (4 - (rp.length + 1))
    rw [show 4 - (rp.length + 1) + 1 = 4 - rp.length by omega] at this
    omega
theorem dec_u {k : Nat} : u32 (k + 1) + -u32 1 = u32 k := by
  rw [← u32_add, Int32.add_assoc, show u32 1 + -u32 1 = u32 0 from by decide]
  exact Int32.add_zero _
/-- the search behind a way found -/
def NWs (w : sm_Mem) (gs : List Gl) (H : HV) (sil : Nat) (l : List (List Nat)) : Prop := ∃ j rp, rp.length + 1 = gs.length ∧ StR w gs H (j :: rp) ∧ l = rem sil gs H rp (j + 1) ∧ phi rp (j + 1) ≤ 7 * 8 ^ 5
theorem nw_57 {gs : List Gl} {H : HV} {sil : Nat} : ∀ (F : Nat) (rp : List Nat) (c : Nat) (w : sm_Mem), phi rp c < F → phi rp c ≤ 7 * 8 ^ 5 → Srch w gs H sil → StR w gs H rp → rp.length < gs.length → w.1 75 rp.length + u32 1 = u32 c → c ≤ hN H → match rem sil gs H rp c with
  | [] => ∃ w1, ff_mo_nextWay_57_f F (u32 rp.length) w = some (.int (u32 0), w1) ∧ NFr w w1
  | q :: l => ∃ w1, ff_mo_nextWay_57_f F (u32 rp.length) w = some (.int (u32 1), w1) ∧ NFr w w1 ∧ w1.1 62 27 = w.1 62 27 ∧ (q.length = gs.length ∧ ∀ j x, q[j]? = some x → w1.1 75 j = u32 x ∧ x < hN H) ∧ NWs w1 gs H sil l := by
  intro F
  induction F with
  | zero => intro rp c w h; omega
  | succ F ih =>
    intro rp c w hF hphi hS hc hk hch hcn
    have hk2 : gs[rp.length]? = some gs[rp.length] := List.getElem?_eq_getElem hk
    have h5 := hS.1
    have h21 := hS.2.1
    have h22 := hS.2.2.1
    have h6 := hS.2.2.2.2.2.1.1
    have hg := hS.2.2.2.2.2.2.1 _ _ hk2
    obtain ⟨j, a1, a2, a3, a4, a5⟩ := ms_nextSpeaker hS hc hk2 (hN H - c) c 1000000 (by omega) (by omega)
    have a6 : ff_mo_nextSpeaker (u32 rp.length) (u32 c) w = some (.int (u32 j), w) := by
      unfold ff_mo_nextSpeaker ff_mo_nextSpeaker_2
      rw [sm_N_eq]
      exact a5
    obtain ⟨c1, c2, c3⟩ := hc
    by_cases hj : j < hN H
    · have hs := a4 hj
      have hcan : canV (pthR gs H rp) j gs[rp.length].1 = true := by
        unfold stepV at hs
        simp only [Bool.and_eq_true] at hs
        exact hs.2.2
      obtain ⟨q8, qb⟩ := canV_free hcan
      have hjp : j < hN (pthR gs H rp) := by rw [(pthR_n rp).1]; exact hj
      have egd : gs.getD rp.length (0, none) = gs[rp.length] := by rw [List.getD_eq_getElem?_getD, hk2]; rfl
      have epush : pthR gs H (j :: rp) = pushV (pthR gs H rp) j gs[rp.length].1 := by
        show pushV _ _ (gs.getD rp.length (0, none)).1 = _
        rw [egd]
      have okn : HOk (pthR gs H (j :: rp)) := by rw [epush]; exact pushV_ok c1 hjp hg.2.2.1 q8
      -- the cells behind it
      have hst : ∀ w1 : sm_Mem, w1.1 75 rp.length = u32 j → (∀ i, i < rp.length → w1.1 75 i = w.1 75 i) → (∀ i, i < hN H → w1.1 76 i = if i = j then u32 (hB (pthR gs H rp) j) - u32 1 else w.1 76 i) → StR w1 gs H (j :: rp) := by
        intro w1 b1 b2 b3
        refine ⟨okn, fun i hi => ?_, b1, hj, qb, c1, CP_fr rp b2 c3⟩
        rw [b3 i hi, epush]
        show _ = u32 (updN (hB (pthR gs H rp)) j (hB (pthR gs H rp) j - 1) i)
        unfold updN
        by_cases e : i = j
        · rw [if_pos e, if_pos e, u32_sub (by omega)]
        · rw [if_neg e, if_neg e]
          exact c2 i hi
      have estep : ff_mo_nextWay_57_f (F + 1) (u32 rp.length) w = if rp.length + 1 = gs.length then some (.int (u32 1), sm_wI (sm_wI w 75 rp.length (u32 j)) 76 j (u32 (hB (pthR gs H rp) j) - u32 1)) else ff_mo_nextWay_57_f F (u32 (rp.length + 1)) (sm_wI (sm_wI (sm_wI w 75 rp.length (u32 j)) 76 j (u32 (hB (pthR gs H rp) j) - u32 1)) 75 (rp.length + 1) (-u32 1)) := by
        rw [ff_mo_nextWay_57_f]
        unfold ff_mo_nextWay_57_b
        simp (disch := omega) only [u32_lit, u32_lt, if_neg, sm_rd_u, sm_bind_some, hch, a6, sm_cI_some, h22, u32_le, sm_wr_u, u32_add, sm_wI_ne, sm_wI_nj, sm_wI_eq, sm_wA_ne, sm_wA_eq, h21, c2 j hj, u32_eq]
      by_cases hfull : rp.length + 1 = gs.length
      · rw [rem_full hk2 hfull a1 hj a3 hs]
        have hst1 := hst (sm_wI (sm_wI w 75 rp.length (u32 j)) 76 j (u32 (hB (pthR gs H rp) j) - u32 1)) (by simp (disch := omega) only [sm_wI_ne, sm_wI_nj, sm_wI_eq, sm_wA_ne, sm_wA_eq]) (fun i hi => by simp (disch := omega) only [sm_wI_ne, sm_wI_nj, sm_wI_eq, sm_wA_ne, sm_wA_eq]) (fun i hi => by
          by_cases e : i = j
          · subst e
            simp (disch := omega) only [sm_wI_ne, sm_wI_nj, sm_wI_eq, sm_wA_ne, sm_wA_eq, if_true]
          · simp (disch := omega) only [sm_wI_ne, sm_wI_nj, sm_wI_eq, sm_wA_ne, sm_wA_eq, if_neg e])
        refine ⟨_, by rw [estep, if_pos hfull], NFr.trans NFr.w5 NFr.w6, by simp (disch := omega) only [sm_wI_ne, sm_wI_nj, sm_wI_eq, sm_wA_ne, sm_wA_eq], ⟨by rw [List.length_reverse, List.length_cons, hfull], fun i x hx => CP_at _ hst1.2.2 i x hx⟩, j, rp, hfull, hst1, rfl, ?_⟩
        exact Nat.le_trans (phi_mono rp (by omega)) hphi
      · rw [rem_down hk2 (by omega) a1 hj a3 hs]
        have hst1 := hst (sm_wI (sm_wI (sm_wI w 75 rp.length (u32 j)) 76 j (u32 (hB (pthR gs H rp) j) - u32 1)) 75 (rp.length + 1) (-u32 1)) (by simp (disch := omega) only [sm_wI_ne, sm_wI_nj, sm_wI_eq, sm_wA_ne, sm_wA_eq]) (fun i hi => by simp (disch := omega) only [sm_wI_ne, sm_wI_nj, sm_wI_eq, sm_wA_ne, sm_wA_eq]) (fun i hi => by
          by_cases e : i = j
          · subst e
            simp (disch := omega) only [sm_wI_ne, sm_wI_nj, sm_wI_eq, sm_wA_ne, sm_wA_eq, if_true]
          · simp (disch := omega) only [sm_wI_ne, sm_wI_nj, sm_wI_eq, sm_wA_ne, sm_wA_eq, if_neg e])
        have hfr : NFr w (sm_wI (sm_wI (sm_wI w 75 rp.length (u32 j)) 76 j (u32 (hB (pthR gs H rp) j) - u32 1)) 75 (rp.length + 1) (-u32 1)) := NFr.trans (NFr.trans NFr.w5 NFr.w6) NFr.w5
        have hd := phi_down rp a1 (by omega) (by omega)
        have hih := ih (j :: rp) 0 _ (by omega) (by omega) (hS.nfr hfr) hst1 (by rw [List.length_cons]; omega) (by rw [List.length_cons, sm_wI_eq]; decide) (Nat.zero_le _)
        rw [List.length_cons] at hih
        rw [estep, if_neg hfull]
        cases hr : rem sil gs H (j :: rp) 0 with
        | nil =>
          rw [hr] at hih
          obtain ⟨w1, b1, b2⟩ := hih
          exact ⟨w1, b1, hfr.trans b2⟩
        | cons q l =>
          rw [hr] at hih
          obtain ⟨w1, b1, b2, b3, b4, b5⟩ := hih
          exact ⟨w1, b1, hfr.trans b2, by rw [b3]; simp (disch := omega) only [sm_wI_ne, sm_wI_nj, sm_wI_eq, sm_wA_ne, sm_wA_eq], b4, b5⟩
    · have hj2 : j = hN H := by omega
      rw [rem_none hk2 (fun i x y => a3 i x (by omega))]
      cases rp with
      | nil =>
        rw [back]
        have hF1 : 1 ≤ F := by
          have h1 : (1 : Nat) * 8 ^ 5 ≤ (7 - c) * 8 ^ 5 := Nat.mul_le_mul_right _ (by omega)
          have h2 : (7 - c) * 8 ^ 5 < F + 1 := hF
          omega
        obtain ⟨F, rfl⟩ : ∃ G, F = G + 1 := ⟨F - 1, by omega⟩
        refine ⟨w, ?_, NFr.refl⟩
        rw [ff_mo_nextWay_57_f]
        unfold ff_mo_nextWay_57_b
        rw [List.length_nil] at a6 hch ⊢
        have e0 : (u32 0 + -u32 1 < u32 0) = True := eq_true (by decide)
        have e1 : (u32 0 < u32 0) = False := eq_false (by decide)
        simp (disch := omega) only [u32_lit, e1, if_false, sm_rd_u, sm_bind_some, hch, a6, sm_cI_some, h22, u32_le, if_pos hj2, e0, if_true]
        rw [if_pos (by omega), ff_mo_nextWay_57_f]
        unfold ff_mo_nextWay_57_b
        simp only [u32_lit, e0, if_true]
      | cons i rp =>
        rw [back]
        rw [List.length_cons] at a6 hch hk
        have d1 := c3.1
        have d2 := c3.2.1
        have d3 := c3.2.2.1
        have d4 := c3.2.2.2.1
        have d5 := c3.2.2.2.2
        have hk3 : gs[rp.length]? = some gs[rp.length] := List.getElem?_eq_getElem (by omega)
        have hb9 : hB (pthR gs H rp) i ≤ 9 := (d4.2.1 i (by rw [(pthR_n rp).1]; exact d2)).2.2.2
        have eb : w.1 76 i + u32 1 = u32 (hB (pthR gs H rp) i) := by
          rw [c2 i d2]
          show u32 (updN (hB (pthR gs H rp)) i (hB (pthR gs H rp) i - 1) i) + u32 1 = _
          unfold updN
          rw [if_pos rfl, u32_add, show hB (pthR gs H rp) i - 1 + 1 = hB (pthR gs H rp) i by omega]
        have hfr : NFr w (sm_wI w 76 i (u32 (hB (pthR gs H rp) i))) := NFr.w6
        have hst1 : StR (sm_wI w 76 i (u32 (hB (pthR gs H rp) i))) gs H rp := by
          refine ⟨d4, fun k hkn => ?_, CP_fr rp (fun _ _ => by rw [sm_wI_ne (by decide)]) d5⟩
          by_cases e : k = i
          · subst e; rw [sm_wI_eq]
          · rw [sm_wI_nj e, c2 k hkn]
            show u32 (updN (hB (pthR gs H rp)) i (hB (pthR gs H rp) i - 1) k) = _
            unfold updN
            rw [if_neg e]
        have hu := phi_up (i := i) (c := c) (rp := rp) (by omega)
        have hih := ih rp (i + 1) _ (by omega) (by omega) (hS.nfr hfr) hst1 (by omega) (by rw [sm_wI_ne (by decide), d1, u32_add]) (by omega)
        have estep : ff_mo_nextWay_57_f (F + 1) (u32 (rp.length + 1)) w = ff_mo_nextWay_57_f F (u32 rp.length) (sm_wI w 76 i (u32 (hB (pthR gs H rp) i))) := by
          rw [ff_mo_nextWay_57_f]
          unfold ff_mo_nextWay_57_b
          simp (disch := omega) only [u32_lit, u32_lt, if_neg, sm_rd_u, sm_bind_some, hch, a6, sm_cI_some, h22, u32_le, if_pos, dec_u, d1, eb, sm_wr_u]
        rw [List.length_cons, estep]
        cases hr : rem sil gs H rp (i + 1) with
        | nil =>
          rw [hr] at hih
          obtain ⟨w1, b1, b2⟩ := hih
          exact ⟨w1, b1, hfr.trans b2⟩
        | cons q l =>
          rw [hr] at hih
          obtain ⟨w1, b1, b2, b3, b4, b5⟩ := hih
          exact ⟨w1, b1, hfr.trans b2, by rw [b3]; simp (disch := omega) only [sm_wI_ne, sm_wI_nj, sm_wI_eq, sm_wA_ne, sm_wA_eq], b4, b5⟩
