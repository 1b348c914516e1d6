/-! pure: how far a row can be said -/
theorem lpF_each {α : Type} {f : Nat → List α} {m i : Nat} (h : lpF f i m = []) {j : Nat} (h1 : i ≤ j) (h2 : j < i + m) : f j = [] := by
  rw [List.eq_nil_iff_forall_not_mem]
  intro x hx
  have := (lpF_mem (x := x) m i).mpr ⟨j, h1, h2, hx⟩
  rw [h] at this
  cases this
theorem wys_take_mono {sil : Nat} : ∀ (gs : List Gl) (H : HV) (k : Nat), wys sil (gs.take k) H = [] → wys sil (gs.take (k + 1)) H = []
  | [], H, k, h => by
    rw [List.take_nil, wys] at h
    cases h
  | g :: gs, H, 0, h => by
    rw [List.take_zero, wys] at h
    cases h
  | g :: gs, H, k + 1, h => by
    rw [List.take_succ_cons, wys] at h ⊢
    refine lpF_nil _ _ (fun j h1 h2 => ?_)
    have e := lpF_each h h1 h2
    by_cases hs : stepV sil H j g = true
    · rw [if_pos hs] at e ⊢
      rw [List.map_eq_nil_iff] at e ⊢
      exact wys_take_mono gs _ k e
    · rw [if_neg hs]
theorem wys_take_le {sil : Nat} {gs : List Gl} {H : HV} : ∀ (d k : Nat), wys sil (gs.take k) H = [] → wys sil (gs.take (k + d)) H = []
  | 0, k, h => h
  | d + 1, k, h => by
    rw [show k + (d + 1) = (k + d) + 1 by omega]
    exact wys_take_mono gs H _ (wys_take_le d k h)
def farL (sil : Nat) (gs : List Gl) (H : HV) : Nat → Nat → Nat
  | k, 0 => k
  | k, m + 1 => if (wys sil (gs.take (k + 1)) H).length = 0 then k else farL sil gs H (k + 1) m
theorem farL_le {sil : Nat} {gs : List Gl} {H : HV} : ∀ (m k : Nat), k ≤ farL sil gs H k m ∧ farL sil gs H k m ≤ k + m
  | 0, k => ⟨Nat.le_refl _, Nat.le_refl _⟩
  | m + 1, k => by
    rw [farL]
    split
    · omega
    · have := farL_le (sil := sil) (gs := gs) (H := H) m (k + 1)
      omega
theorem sm_wI_wI {w : sm_Mem} {k j : Nat} {x y : Int32} : sm_wI (sm_wI w k j x) k j y = sm_wI w k j y := by
  refine Prod.ext ?_ rfl
  funext a b
  show (if a = k ∧ b = j then y else if a = k ∧ b = j then x else w.1 a b) = if a = k ∧ b = j then y else w.1 a b
  by_cases h : a = k ∧ b = j
  · rw [if_pos h, if_pos h]
  · rw [if_neg h, if_neg h, if_neg h]
theorem sm_wI_id {w : sm_Mem} {k j : Nat} : sm_wI w k j (w.1 k j) = w := by
  refine Prod.ext ?_ rfl
  funext a b
  show (if a = k ∧ b = j then w.1 k j else w.1 a b) = w.1 a b
  by_cases h : a = k ∧ b = j
  · rw [if_pos h, h.1, h.2]
  · rw [if_neg h]
theorem wy_far_dead {L : Nat} {gs : List Gl} {gu : Option Nat} {H : HV} {w : sm_Mem} {a : Nat} (hG : GW w L gu gs) (hA : AccD w (tre 0 gs H)) : ∀ (m p F : Nat), p + m = L + 1 → m < F → wys 0 (gs.take p) H = [] → ff_wy_farthest_4_f F (u32 a) (u32 p) w = some (.int (u32 a), w) := by
  obtain ⟨g1, g2, g3, -⟩ := hG
  intro m
  induction m with
  | zero =>
    intro p F hp hF h0
    obtain ⟨F, rfl⟩ : ∃ G, F = G + 1 := ⟨F - 1, by omega⟩
    rw [ff_wy_farthest_4_f]
    unfold ff_wy_farthest_4_b
    simp (disch := omega) only [g3, u32_lt, if_pos]
  | succ m ih =>
    intro p F hp hF h0
    obtain ⟨F, rfl⟩ : ∃ G, F = G + 1 := ⟨F - 1, by omega⟩
    have e : w.1 53 p = u32 0 := by
      rw [hA.1.1 p (by omega), cntV_take (by omega), h0]
      rfl
    rw [ff_wy_farthest_4_f]
    unfold ff_wy_farthest_4_b
    simp (disch := omega) only [u32_lit, g3, u32_lt, if_neg, sm_rd_u, bs_, e, u32_le, Nat.le_refl, if_true, u32_add]
    exact ih (p + 1) F (by omega) (by omega) (wys_take_mono gs H p h0)
theorem wy_far_loop {L : Nat} {gs : List Gl} {gu : Option Nat} {H : HV} {w : sm_Mem} (h6 : hN H ≤ 6) (hG : GW w L gu gs) (hA : AccD w (tre 0 gs H)) : ∀ (m k F : Nat), k + m = L → m < F → ff_wy_farthest_4_f F (u32 k) (u32 (k + 1)) w = some (.int (u32 (farL 0 gs H k m)), w) := by
  obtain ⟨g1, g2, g3, -⟩ := id hG
  intro m
  induction m with
  | zero =>
    intro k F hp hF
    obtain ⟨F, rfl⟩ : ∃ G, F = G + 1 := ⟨F - 1, by omega⟩
    rw [ff_wy_farthest_4_f, farL]
    unfold ff_wy_farthest_4_b
    simp (disch := omega) only [g3, u32_lt, if_pos]
  | succ m ih =>
    intro k F hp hF
    obtain ⟨F, rfl⟩ : ∃ G, F = G + 1 := ⟨F - 1, by omega⟩
    have hs := wys_small (sil := 0) (gs := gs.take (k + 1)) h6 (by rw [List.length_take]; omega)
    have e : w.1 53 (k + 1) = u32 (wys 0 (gs.take (k + 1)) H).length := by
      rw [hA.1.1 (k + 1) (by omega), cntV_take (by omega)]
    rw [ff_wy_farthest_4_f, farL]
    unfold ff_wy_farthest_4_b
    by_cases h0 : (wys 0 (gs.take (k + 1)) H).length = 0
    · rw [if_pos h0]
      simp (disch := omega) only [u32_lit, g3, u32_lt, if_neg, sm_rd_u, bs_, e, h0, u32_le, Nat.le_refl, if_true, u32_add]
      have hd := wys_take_mono gs H (k + 1) (List.length_eq_zero_iff.mp h0)
      by_cases hm : m = 0
      · subst hm
        obtain ⟨F, rfl⟩ : ∃ G, F = G + 1 := ⟨F - 1, by omega⟩
        rw [ff_wy_farthest_4_f]
        unfold ff_wy_farthest_4_b
        simp (disch := omega) only [g3, u32_lt, if_pos]
      · exact wy_far_dead hG hA m (k + 1 + 1) F (by omega) (by omega) hd
    · rw [if_neg h0]
      simp (disch := omega) only [u32_lit, g3, u32_lt, if_neg, sm_rd_u, bs_, e, u32_le, u32_add]
      exact ih (k + 1) F (by omega) (by omega)
theorem isEmpty_len {α : Type} (l : List α) : (u32 (!l.isEmpty).toNat = u32 0) = (l.length = 0) := by
  cases l with
  | nil => exact propext ⟨fun _ => rfl, fun _ => rfl⟩
  | cons a l => exact propext ⟨fun h => absurd (show u32 1 = u32 0 from h) (by decide), fun h => by cases h⟩
/-- the class's search of a row of words -/
theorem words_run {r : Nat} {w : sm_Mem} {gs : List Gl} {H : HV} (hr : r < 6) (g5 : gs.length ≤ 5) (gsz : w.1 (2 + 2 * r) 1 = u32 (1 * gs.length)) (gat : ∀ j g, gs[j]? = some g → w.1 (2 + 2 * r + 1) (1 * j) = u32 g.1 ∧ (1 = 1 → g.2 = none) ∧ (1 = 2 → w.1 (2 + 2 * r + 1) (2 * j + 1) = oAns g.2) ∧ g.1 < 6 ∧ ∀ q, g.2 = some q → q < 6) (hH : CH w H) (hok : HOk H) : ∃ w1, ff_wy_runWords (2 + 2 * r) (-u32 9) w = some (.null, w1) ∧ CH w1 H ∧ AccD w1 (tre 0 gs H) ∧ AccR w1 gs.length none gs (tre 0 gs H) ∧ GW w1 gs.length none gs ∧ RFr w w1 :=
  wy_runWords (gu := none) (gs := gs) (L := gs.length) (isRow_row hr) (by omega) rfl g5 (by rw [gsz, Nat.one_mul]) (fun g hg => by cases hg) (fun j g hj => by
    have := gat j g hj
    rw [Nat.one_mul] at this
    exact ⟨this.1, this.2.1 rfl, this.2.2.2.1⟩) hH hok
theorem pairs_run {r : Nat} {w : sm_Mem} {gs : List Gl} {H : HV} (hr : r < 6) (g5 : gs.length ≤ 5) (gsz : w.1 (2 + 2 * r) 1 = u32 (2 * gs.length)) (gat : ∀ j g, gs[j]? = some g → w.1 (2 + 2 * r + 1) (2 * j) = u32 g.1 ∧ (2 = 1 → g.2 = none) ∧ (2 = 2 → w.1 (2 + 2 * r + 1) (2 * j + 1) = oAns g.2) ∧ g.1 < 6 ∧ ∀ q, g.2 = some q → q < 6) (hH : CH w H) (hok : HOk H) : ∃ w1, ff_wy_runPairs (2 + 2 * r) w = some (.null, w1) ∧ CH w1 H ∧ AccD w1 (tre 0 gs H) ∧ AccR w1 gs.length none gs (tre 0 gs H) ∧ GW w1 gs.length none gs ∧ RFr w w1 :=
  wy_runPairs (gs := gs) (L := gs.length) (isRow_row hr) (by omega) rfl g5 gsz (fun j g hj => by
    have := gat j g hj
    exact ⟨this.1, this.2.2.1 rfl, this.2.2.2.1, this.2.2.2.2⟩) hH hok
