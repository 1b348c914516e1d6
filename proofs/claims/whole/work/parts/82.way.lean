/-! pure: the reference's ways by lists -/
def WYs (w : sm_Mem) (gs : List Gl) (H : HV) (q : List Nat) : Prop := q.length = gs.length ∧ ∀ j x, q[j]? = some x → w.1 75 j = u32 x ∧ x < hN H
def NW (w : sm_Mem) (gs : List Gl) (H : HV) (sil : Nat) (l : List (List Nat)) : Prop := Srch w gs H sil ∧ ((w.1 62 27 = u32 0 ∧ w.1 75 0 = -u32 1 ∧ (∀ i, i < hN H → w.1 76 i = u32 (hB H i)) ∧ l = wys sil gs H) ∨ (w.1 62 27 = u32 1 ∧ gs = [] ∧ l = []) ∨ (w.1 62 27 = u32 1 ∧ NWs w gs H sil l))
theorem NW.fr {w w1 : sm_Mem} {gs : List Gl} {H : HV} {sil : Nat} {l : List (List Nat)} (h : NW w gs H sil l) (h62 : ∀ j, (j = 1 ∨ j = 21 ∨ j = 22 ∨ j = 23 ∨ j = 24 ∨ j = 27) → w1.1 62 j = w.1 62 j) (ha : ∀ a, (63 ≤ a ∧ a < 66) ∨ (73 ≤ a ∧ a < 77) → w1.1 a = w.1 a) : NW w1 gs H sil l := by
  refine ⟨h.1.fr (fun j hj => h62 j (by omega)) (fun a hb => ha a (by omega)), ?_⟩
  rcases h.2 with ⟨a1, a2, a3, a4⟩ | ⟨a1, a2⟩ | ⟨a1, j, rp, b1, b2, b3, b4⟩
  · refine Or.inl ⟨by rw [h62 27 (by omega)]; exact a1, by rw [ha 75 (by omega)]; exact a2, by rw [ha 76 (by omega)]; exact a3, a4⟩
  · exact Or.inr (Or.inl ⟨by rw [h62 27 (by omega)]; exact a1, a2⟩)
  · exact Or.inr (Or.inr ⟨by rw [h62 27 (by omega)]; exact a1, j, rp, b1, ⟨b2.1, by rw [ha 76 (by omega)]; exact b2.2.1, CP_fr _ (fun i _ => by rw [ha 75 (by omega)]) b2.2.2⟩, b3, b4⟩)
theorem mo_begin_loop {gs : List Gl} {H : HV} {sil : Nat} : ∀ (m i F : Nat) (w : sm_Mem), i + m = hN H → m < F → Srch w gs H sil → (∀ j, j < i → w.1 76 j = u32 (hB H j)) → ∃ w1, ff_mo_beginWays_2_f F (u32 i) w = some (.null, w1) ∧ NFr w w1 ∧ w1.1 62 27 = u32 0 ∧ w1.1 75 0 = -u32 1 ∧ ∀ j, j < hN H → w1.1 76 j = u32 (hB H j) := by
  intro m
  induction m with
  | zero =>
    intro i F w hm hF hS hb
    obtain ⟨F, rfl⟩ : ∃ G, F = G + 1 := ⟨F - 1, by omega⟩
    have h22 := hS.2.2.1
    have h6 := hS.2.2.2.2.2.1.1
    refine ⟨sm_wI (sm_wI w 75 0 (-u32 1)) 62 27 (u32 0), ?_, NFr.trans NFr.w5 NFr.w27, sm_wI_eq, by simp (disch := omega) only [sm_wI_ne, sm_wI_nj, sm_wI_eq, sm_wA_ne, sm_wA_eq], fun j hj => by simp (disch := omega) only [sm_wI_ne, sm_wI_nj, sm_wI_eq, sm_wA_ne, sm_wA_eq]; exact hb j (by omega)⟩
    rw [ff_mo_beginWays_2_f]
    unfold ff_mo_beginWays_2_b
    simp (disch := omega) only [u32_lit, h22, u32_le, if_pos, sm_wr_u, sm_bind_some, sm_let_eq]
  | succ m ih =>
    intro i F w hm hF hS hb
    obtain ⟨F, rfl⟩ : ∃ G, F = G + 1 := ⟨F - 1, by omega⟩
    have h22 := hS.2.2.1
    have h6 := hS.2.2.2.2.2.1.1
    obtain ⟨n, a1, a2, a3, a4, a5, a6, -⟩ := hS.2.2.2.2.2.2.2
    obtain ⟨w1, b1, b2, b3, b4, b5⟩ := ih (i + 1) F (sm_wI w 76 i (u32 (hB H i))) (by omega) (by omega) (hS.nfr NFr.w6) (fun j hj => by
      by_cases e : j = i
      · subst e; exact sm_wI_eq
      · rw [sm_wI_nj e]; exact hb j (by omega))
    refine ⟨w1, ?_, NFr.trans NFr.w6 b2, b3, b4, b5⟩
    rw [ff_mo_beginWays_2_f]
    unfold ff_mo_beginWays_2_b ff_mo_beginWays_37
    by_cases e : i = n
    · have e9 := (a6 (by omega)).2
      rw [← e] at e9
      rw [e9] at b1
      simp (disch := omega) only [u32_lit, h22, u32_le, if_neg, a1, u32_eq, if_pos e, sm_wr_u, sm_bind_some, u32_add]
      exact b1
    · simp (disch := omega) only [u32_lit, h22, u32_le, if_neg, a1, u32_eq, u32_add, sm_rd_u, (a5 i (by omega)).2, sm_wr_u, sm_bind_some]
      exact b1
theorem mo_beginWays {gs : List Gl} {H : HV} {sil : Nat} {w : sm_Mem} (hS : Srch w gs H sil) : ∃ w1, ff_mo_beginWays w = some (.null, w1) ∧ NFr w w1 ∧ NW w1 gs H sil (wys sil gs H) := by
  have h6 := hS.2.2.2.2.2.1.1
  obtain ⟨w1, a1, a2, a3, a4, a5⟩ := mo_begin_loop (hN H) 0 1000000 w (by omega) (by omega) hS (fun j hj => absurd hj (Nat.not_lt_zero _))
  refine ⟨w1, ?_, a2, hS.nfr a2, Or.inl ⟨a3, a4, a5, rfl⟩⟩
  unfold ff_mo_beginWays ff_mo_beginWays_2
  rw [sm_N_eq]
  exact a1
theorem nw_52 {gs : List Gl} {H : HV} {sil : Nat} {w : sm_Mem} {rp : List Nat} {c : Nat} (hp : phi rp c ≤ 7 * 8 ^ 5) (hS : Srch w gs H sil) (hc : StR w gs H rp) (hl : rp.length < gs.length) (h75 : w.1 75 rp.length + u32 1 = u32 c) (hcn : c ≤ hN H) : match rem sil gs H rp c with
  | [] => ∃ w1, ff_mo_nextWay_52 (u32 rp.length) w = some (.int (u32 0), w1) ∧ NFr w w1
  | q :: l => ∃ w1, ff_mo_nextWay_52 (u32 rp.length) w = some (.int (u32 1), w1) ∧ NFr w w1 ∧ WYs w1 gs H q ∧ NW w1 gs H sil l := by
  have hf : NFr w (sm_wI w 62 27 (u32 1)) := NFr.w27
  have h := nw_57 1000000 rp c (sm_wI w 62 27 (u32 1)) (Nat.lt_of_le_of_lt hp (by decide)) hp (hS.nfr hf) ⟨hc.1, by rw [sm_wI_ne (by decide)]; exact hc.2.1, CP_fr rp (fun _ _ => by rw [sm_wI_ne (by decide)]) hc.2.2⟩ hl (by rw [sm_wI_ne (by decide)]; exact h75) hcn
  unfold ff_mo_nextWay_52 ff_mo_nextWay_57
  simp only [u32_lit, sm_let_eq]
  rw [sm_N_eq]
  cases hr : rem sil gs H rp c with
  | nil =>
    rw [hr] at h
    obtain ⟨w1, a1, a2⟩ := h
    exact ⟨w1, a1, hf.trans a2⟩
  | cons q l =>
    rw [hr] at h
    obtain ⟨w1, a1, a2, a3, a4, a5⟩ := h
    exact ⟨w1, a1, hf.trans a2, a4, hS.nfr (hf.trans a2), Or.inr (Or.inr ⟨by rw [a3, sm_wI_eq], a5⟩)⟩
def NRes (w : sm_Mem) (gs : List Gl) (H : HV) (sil : Nat) : List (List Nat) → Prop
  | [] => ∃ w1, ff_mo_nextWay w = some (.int (u32 0), w1) ∧ NFr w w1
  | q :: l => ∃ w1, ff_mo_nextWay w = some (.int (u32 1), w1) ∧ NFr w w1 ∧ WYs w1 gs H q ∧ NW w1 gs H sil l
theorem mo_nextWay {gs : List Gl} {H : HV} {sil : Nat} {w : sm_Mem} {l : List (List Nat)} (h : NW w gs H sil l) : NRes w gs H sil l := by
  obtain ⟨hS, h⟩ := h
  have h5 := hS.1
  have h21 := hS.2.1
  have h6 := hS.2.2.2.2.2.1.1
  rcases h with ⟨a1, a2, a3, a4⟩ | ⟨a1, a2, a3⟩ | ⟨a1, j, rp, b1, b2, b3, b4⟩
  · cases gs with
    | nil =>
      rw [a4, wys]
      refine ⟨sm_wI w 62 27 (u32 1), ?_, NFr.w27, ⟨rfl, fun j x hx => (by cases hx)⟩, hS.nfr NFr.w27, Or.inr (Or.inl ⟨sm_wI_eq, rfl, rfl⟩)⟩
      unfold ff_mo_nextWay
      simp only [u32_lit, a1, h21, List.length_nil, if_true, sm_let_eq]
    | cons g gs =>
      have h := nw_52 (rp := []) (c := 0) (Nat.le_refl _) hS ⟨hS.2.2.2.2.2.1, a3, trivial⟩ (Nat.succ_pos _) (by rw [List.length_nil, a2]; decide) (Nat.zero_le _)
      rw [rem_start (gs := g :: gs) (Nat.succ_pos gs.length), ← a4] at h
      have e : ff_mo_nextWay w = ff_mo_nextWay_52 (u32 0) w := by
        have e0 : (u32 (gs.length + 1) = u32 0) = False := by
          rw [List.length_cons] at h5
          rw [u32_eq (by omega) (by omega)]
          exact eq_false (Nat.succ_ne_zero _)
        unfold ff_mo_nextWay
        simp only [u32_lit, a1, h21, List.length_cons, if_true, e0, if_false]
      cases l with
      | nil =>
        obtain ⟨w1, x1, x2⟩ := h
        exact ⟨w1, e.trans x1, x2⟩
      | cons q l =>
        obtain ⟨w1, x1, x2, x3, x4⟩ := h
        exact ⟨w1, e.trans x1, x2, x3, x4⟩
  · subst a2
    subst a3
    refine ⟨sm_wI w 62 27 (u32 1), ?_, NFr.w27⟩
    have e1 : (u32 0 - u32 1 < u32 0) = True := eq_true (by decide)
    unfold ff_mo_nextWay ff_mo_nextWay_52 ff_mo_nextWay_57
    simp only [u32_lit, a1, h21, List.length_nil, u10, if_false, e1, if_true, sm_let_eq]
    rw [sm_N_eq]
    rw [show (1000000 : Nat) = 999999 + 1 from rfl, ff_mo_nextWay_57_f]
    unfold ff_mo_nextWay_57_b
    simp only [u32_lit, e1, if_true]
  · have c3 := b2.2.2
    have d1 := c3.1
    have d2 := c3.2.1
    have d3 := c3.2.2.1
    have d4 := c3.2.2.2.1
    have d5 := c3.2.2.2.2
    have hb9 : hB (pthR gs H rp) j ≤ 9 := (d4.2.1 j (by rw [(pthR_n rp).1]; exact d2)).2.2.2
    have eb : w.1 76 j + u32 1 = u32 (hB (pthR gs H rp) j) := by
      rw [b2.2.1 j d2]
      show u32 (updN (hB (pthR gs H rp)) j (hB (pthR gs H rp) j - 1) j) + u32 1 = _
      unfold updN
      rw [if_pos rfl, u32_add, show hB (pthR gs H rp) j - 1 + 1 = hB (pthR gs H rp) j by omega]
    have hfr : NFr w (sm_wI w 76 j (u32 (hB (pthR gs H rp) j))) := NFr.w6
    have hst1 : StR (sm_wI w 76 j (u32 (hB (pthR gs H rp) j))) gs H rp := by
      refine ⟨d4, fun k hkn => ?_, CP_fr rp (fun _ _ => by rw [sm_wI_ne (by decide)]) d5⟩
      by_cases e : k = j
      · subst e; rw [sm_wI_eq]
      · rw [sm_wI_nj e, b2.2.1 k hkn]
        show u32 (updN (hB (pthR gs H rp)) j (hB (pthR gs H rp) j - 1) k) = _
        unfold updN
        rw [if_neg e]
    have h := nw_52 b4 (hS.nfr hfr) hst1 (by omega) (by rw [sm_wI_ne (by decide), d1, u32_add]) (by omega)
    rw [← b3] at h
    have e : ff_mo_nextWay w = ff_mo_nextWay_52 (u32 rp.length) (sm_wI w 76 j (u32 (hB (pthR gs H rp) j))) := by
      unfold ff_mo_nextWay
      rw [← b1] at h21
      simp (disch := omega) only [u32_lit, a1, u10, if_false, h21, u32_sub, Nat.add_sub_cancel, u32_lt, if_neg, sm_rd_u, sm_bind_some, d1, eb, sm_wr_u]
    cases l with
    | nil =>
      obtain ⟨w1, x1, x2⟩ := h
      exact ⟨w1, e.trans x1, hfr.trans x2⟩
    | cons q l =>
      obtain ⟨w1, x1, x2, x3, x4⟩ := h
      exact ⟨w1, e.trans x1, hfr.trans x2, x3, x4⟩
theorem mo_spoke_loop {gs : List Gl} {H : HV} {sil : Nat} {w : sm_Mem} {q : List Nat} (hS : Srch w gs H sil) (hq : WYs w gs H q) : ∀ (m k F s : Nat), k + m = gs.length → m < F → s < 64 → ff_mo_spokeIn_4_f F (u32 s) (u32 k) w = some (.int (u32 ((q.drop k).foldl (fun s i => s ||| 2 ^ i) s)), w) := by
  have h5 := hS.1
  have h21 := hS.2.1
  have h6 := hS.2.2.2.2.2.1.1
  intro m
  induction m with
  | zero =>
    intro k F s hm hF hs
    obtain ⟨F, rfl⟩ : ∃ G, F = G + 1 := ⟨F - 1, by omega⟩
    rw [ff_mo_spokeIn_4_f]
    unfold ff_mo_spokeIn_4_b
    rw [List.drop_eq_nil_of_le (by rw [hq.1]; omega)]
    simp (disch := omega) only [h21, u32_le, if_pos]
    rfl
  | succ m ih =>
    intro k F s hm hF hs
    obtain ⟨F, rfl⟩ : ∃ G, F = G + 1 := ⟨F - 1, by omega⟩
    have hkq : k < q.length := by rw [hq.1]; omega
    have e2 : q[k]? = some q[k] := List.getElem?_eq_getElem hkq
    obtain ⟨c1, c2⟩ := hq.2 k _ e2
    have hlt : s ||| 2 ^ q[k] < 64 := by
      have : 2 ^ q[k] < 2 ^ 6 := Nat.pow_lt_pow_right (by decide) (by omega)
      exact Nat.or_lt_two_pow (n := 6) hs this
    rw [ff_mo_spokeIn_4_f]
    unfold ff_mo_spokeIn_4_b
    simp (disch := omega) only [u32_lit, h21, u32_le, if_neg, sm_rd_u, sm_bind_some, c1, u32_add]
    rw [u32_or_bit hs (by omega), ih (k + 1) F _ (by omega) (by omega) hlt, ← List.getElem_cons_drop hkq, List.foldl_cons]
theorem mo_spokeIn {gs : List Gl} {H : HV} {sil : Nat} {w : sm_Mem} {q : List Nat} (hS : Srch w gs H sil) (hq : WYs w gs H q) : ff_mo_spokeIn w = some (.int (u32 (usedN q)), w) := by
  have h5 := hS.1
  unfold ff_mo_spokeIn ff_mo_spokeIn_4
  rw [sm_N_eq]
  exact mo_spoke_loop hS hq gs.length 0 1000000 0 (by omega) (by omega) (by decide)
theorem mo_hasWay {gs : List Gl} {H : HV} {sil : Nat} {w : sm_Mem} (hS : Srch w gs H sil) : ∃ w1, ff_mo_hasWay w = some (.int (u32 (!(wys sil gs H).isEmpty).toNat), w1) ∧ NFr w w1 := by
  obtain ⟨w1, a1, a2, a3⟩ := mo_beginWays hS
  have h := mo_nextWay a3
  unfold ff_mo_hasWay
  rw [a1, sm_cV_some]
  cases hl : wys sil gs H with
  | nil =>
    rw [hl] at h
    obtain ⟨w2, b1, b2⟩ := h
    exact ⟨w2, by rw [b1, sm_cI_some]; exact rz_0, a2.trans b2⟩
  | cons q l =>
    rw [hl] at h
    obtain ⟨w2, b1, b2, -⟩ := h
    exact ⟨w2, by rw [b1, sm_cI_some]; exact rz_1, a2.trans b2⟩
theorem WYs.lt {w : sm_Mem} {gs : List Gl} {H : HV} {q : List Nat} (h : WYs w gs H q) (h6 : hN H ≤ 6) : usedN q < 64 := by
  refine usedN_64 (fun i hi => ?_)
  obtain ⟨j, hj⟩ := List.getElem?_of_mem hi
  have := (h.2 j i hj).2
  omega
