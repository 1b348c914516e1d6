/-! pure: say, end, hour, walk -/
theorem Both_imp {c m : sm_Mem → sm_R} {P Q : sm_Mem → Prop} {w : sm_Mem} (h : Both c m P w) (hpq : ∀ w1, P w1 → Q w1) : Both c m Q w := by
  obtain ⟨v, w1, w2, h1, h2, h3⟩ := h
  exact ⟨v, w1, w2, h1, h2, hpq w2 h3⟩
theorem BothR_cells {c m : sm_Mem → sm_R} {w : sm_Mem} (h : R w) (hb : Both c m (RCells w) w) : Both c m R w := Both_imp hb (fun _ h1 => R_of_cells h h1)
theorem BothR_same {c m : sm_Mem → sm_R} {w : sm_Mem} (h : R w) (v : Int32) (hc : c w = some (.int v, w)) (hm : m w = some (.int v, w)) : Both c m R w := Both_mk _ w w hc hm h
theorem BothR_ref {c m : sm_Mem → sm_R} {w : sm_Mem} (h : R w) (f : Nat) (hc : c w = some (.int (-u32 3), wcRef f w)) (hm : m (wcRef f w) = some (.int (-u32 3), wmRef f (wcRef f w))) : Both c m R w := BothR_cells h (Both_ref f hc hm h.1)
theorem RC_fr {w w1 : sm_Mem} (h : ∀ a, a < 24 ∨ (60 ≤ a ∧ a < 63) ∨ (67 ≤ a ∧ a < 72) → w1.1 a = w.1 a) (h2 : w1.2 = w.2) (H : RC w) : RC w1 :=
  ⟨RRows_fr (fun a ha => h a (by omega)) H.1, RTexts_fr (fun a ha => h a (by omega)) H.2.1, RTold_fr (w := w) ⟨by rw [h 60 (by omega)], by rw [h 60 (by omega)], h 61 (by omega), h 71 (by omega), by rw [h 62 (by omega)], by rw [h 62 (by omega)]⟩ h2 H.2.2⟩
theorem ho_isSpeaker_bad {x : Int32} {n : Nat} {w : sm_Mem} (hn : w.1 36 0 = u32 n) (h6 : n ≤ 6) (h : aBad x n) : ff_ho_isSpeaker x w = some (.int (u32 0), w) := by
  unfold ff_ho_isSpeaker
  rw [hn, ho_within_bad h (by omega), sm_cI_some, rz_0]
theorem ho_isSpeaker_good {i n : Nat} {w : sm_Mem} (hn : w.1 36 0 = u32 n) (h6 : n ≤ 6) (h : i < n) : ff_ho_isSpeaker (u32 i) w = some (.int (u32 1), w) := by
  unfold ff_ho_isSpeaker
  rw [hn, ho_within_good h (by omega), sm_cI_some, rz_1]
theorem mo_isSpeaker_bad {x : Int32} {n : Nat} {w : sm_Mem} (hn : w.1 62 1 = u32 n) (h6 : n ≤ 6) (h : aBad x n) : ff_mo_isSpeaker x w = some (.int (u32 0), w) := by
  unfold ff_mo_isSpeaker
  rw [hn, u32_lit, mo_in_bad h (u32_pred (by omega)), sm_cI_some, rz_0]
theorem mo_isSpeaker_good {i n : Nat} {w : sm_Mem} (hn : w.1 62 1 = u32 n) (h6 : n ≤ 6) (h : i < n) : ff_mo_isSpeaker (u32 i) w = some (.int (u32 1), w) := by
  unfold ff_mo_isSpeaker
  rw [hn, u32_lit, mo_in_good h (by omega) (u32_pred (by omega)), sm_cI_some, rz_1]
theorem mo_isWord_bad {x : Int32} {w : sm_Mem} (h : aBad x 6) : ff_mo_isWord x w = some (.int (u32 0), w) := by
  unfold ff_mo_isWord
  rw [mo_in_bad h rfl, sm_cI_some, rz_0]
theorem mo_isWord_good {i : Nat} {w : sm_Mem} (h : i < 6) : ff_mo_isWord (u32 i) w = some (.int (u32 1), w) := by
  unfold ff_mo_isWord
  rw [mo_in_good h (by decide) rfl, sm_cI_some, rz_1]
theorem RHs.n {w : sm_Mem} {B : HBase} {ds : List Deed} (h : RHs w B ds) : HOk (playV B ds).1 ∧ hN (playV B ds).1 = B.1 ∧ w.1 36 0 = u32 B.1 ∧ w.1 62 1 = u32 B.1 ∧ B.1 ≤ 6 := by
  obtain ⟨h1, h2, h3, h4, h5, h6, h7, h8, h9⟩ := h
  obtain ⟨a1, a2⟩ := playV_ok h1 ds h4 h5
  refine ⟨a1, a2, ?_, ?_, h1.1⟩
  · rw [← a2]; exact h6.1.1
  · rw [← a2]; exact h8.2.1.1.1
theorem de_add {ds : List Deed} {d : Deed} {w : sm_Mem} (hl : ds.length < 40) (h : CD w 45 ds) : ∃ w1, ff_de_add 45 (u32 d.1) (u32 d.2.1) (u32 d.2.2) w = some (.null, w1) ∧ CD w1 45 (d :: ds) ∧ (∀ a, (a < 45 ∨ 48 < a) → w1.1 a = w.1 a) ∧ w1.2 = w.2 := by
  have hD := isDeeds_home
  have f0 : sm_fk 45 0 0 2 = some 46 := rfl
  have f1 : sm_fk 45 0 1 2 = some 47 := rfl
  have f2 : sm_fk 45 0 2 2 = some 48 := rfl
  refine ⟨sm_wI (sm_wI (sm_wI (sm_wI w 46 ds.length (u32 d.1)) 47 ds.length (u32 d.2.1)) 48 ds.length (u32 d.2.2)) 45 3 (u32 (ds.length + 1)), ?_, ⟨?_, ?_, ?_, ?_, ?_⟩, fun a ha => ?_, rfl⟩
  · unfold ff_de_add
    simp (disch := omega) only [u32_lit, sm_let_eq, sm_bind_some, sm_cI_some, sm_cV_some, sm_cL_some, sm_rd_u, sm_wr_u, u32_add, u32_mul, u32_sub, u32_le, u32_lt, u32_eq, u32_eq_neg, u32_neg_eq, u32_neg_neg, u32_le_neg, u32_neg_lt, u32_lt_neg, u32_neg_le, u10, u01, u3n0, u1n0, u4n0, n9_lt, n1_lt, n9_neg, n1_neg, if_true, if_false, if_pos, if_neg, ne_eq, not_true_eq_false, not_false_eq_true, hD.gI, h.1, ho_within_good hl, f0, f1, f2, hD.wrs, sm_wI_ne, sm_wI_nj, sm_wI_eq, sm_wA_ne, sm_wA_eq, hD.pI]
  · simp (disch := omega) only [sm_wI_ne, sm_wI_nj, sm_wI_eq, sm_wA_ne, sm_wA_eq]
    rfl
  · simp (disch := omega) only [sm_wI_ne, sm_wI_nj, sm_wI_eq, sm_wA_ne, sm_wA_eq]
  · simp (disch := omega) only [sm_wI_ne, sm_wI_nj, sm_wI_eq, sm_wA_ne, sm_wA_eq]
  · simp (disch := omega) only [sm_wI_ne, sm_wI_nj, sm_wI_eq, sm_wA_ne, sm_wA_eq]
  · refine CDl_fr ds (fun j hj => ?_) h.2
    simp (disch := omega) only [sm_wI_ne, sm_wI_nj, sm_wI_eq, sm_wA_ne, sm_wA_eq, and_self]
  · simp (disch := omega) only [sm_wI_ne, sm_wI_nj, sm_wI_eq, sm_wA_ne, sm_wA_eq]
theorem hs_enact {B : HBase} {ds : List Deed} {d : Deed} {w : sm_Mem} (h : RHs w B ds) (hl : ds.length < 40) (hd : okD (playV B ds) d) : ∃ w1, ff_hs_enact (u32 d.1) (u32 d.2.1) (u32 d.2.2) w = some (.null, w1) ∧ CHX w1 (playV B (d :: ds)) ∧ CD w1 45 (d :: ds) ∧ (∀ a, (a < 36 ∨ 48 < a ∨ a = 37 ∨ a = 38 ∨ a = 39 ∨ a = 40) → w1.1 a = w.1 a) ∧ w1.2 = w.2 := by
  obtain ⟨hok, hn, -⟩ := h.n
  obtain ⟨h1, h2, h3, h4, h5, h6, h7, h8, h9⟩ := h
  have hsm := playV_small (B := B) ds
  obtain ⟨w1, a1, a2, a3, a4⟩ := de_add (d := d) hl h7
  obtain ⟨w2, b1, b2, b3⟩ := hs_perform (w := w1) ⟨CH_fr (fun a c1 c2 => a3 a (by omega)) h6.1, by rw [a3 36 (by omega)]; exact h6.2⟩ hok hn (fun i hi => by rw [a3 39 (by omega), a3 40 (by omega)]; exact h2 i hi) hd (by omega) (by omega)
  refine ⟨w2, ?_, b2, ⟨by rw [b3.1 45 (by omega)]; exact a2.1, CDl_fr _ (fun j _ => ?_) a2.2⟩, fun a ha => by rw [b3.1 a (by omega), a3 a (by omega)], b3.2.1.trans a4⟩
  · unfold ff_hs_enact
    rw [a1, sm_cV_some, b1]
    rfl
  · rw [b3.1 (45 + 1) (by omega), b3.1 (45 + 2) (by omega), b3.1 (45 + 3) (by omega)]
    exact ⟨rfl, rfl, rfl⟩
theorem RHs_deed {w w1 w2 : sm_Mem} {B : HBase} {ds : List Deed} {d : Deed} (h : RHs w B ds) (hl : ds.length < 40) (hd : okD (playV B ds) d) (a1 : CHX w1 (playV B (d :: ds))) (a2 : CD w1 45 (d :: ds)) (a3 : ∀ a, (a < 36 ∨ 48 < a ∨ a = 37 ∨ a = 38 ∨ a = 39 ∨ a = 40) → w1.1 a = w.1 a) (b1 : MKept w2 B 0 (d :: ds)) (b2 : QFr (fun j => 1272 ≤ j) w1 w2) : RHs w2 B (d :: ds) := by
  obtain ⟨h1, h2, h3, h4, h5, h6, h7, h8, h9⟩ := h
  have e : ∀ a, (a < 36 ∨ (48 < a ∧ a ≠ 63) ∨ a = 37 ∨ a = 38 ∨ a = 39 ∨ a = 40) → w2.1 a = w.1 a := fun a ha => (b2.1 a (by omega)).trans (a3 a (by omega))
  refine ⟨h1, fun i hi => ?_, fun i hi => ?_, by rw [List.length_cons]; omega, ⟨hd, h5⟩, ⟨CH_fr (fun a c1 c2 => b2.1 a (by omega)) a1.1, ?_⟩, ⟨?_, CDl_fr _ (fun j _ => ?_) a2.2⟩, b1, fun k hk => ?_⟩
  · rw [e 39 (by omega), e 40 (by omega)]; exact h2 i hi
  · rw [e 66 (by omega)]; exact h3 i hi
  · rw [b2.1 36 (by decide)]; exact a1.2
  · rw [b2.1 45 (by decide)]; exact a2.1
  · rw [b2.1 (45 + 1) (by decide), b2.1 (45 + 2) (by decide), b2.1 (45 + 3) (by decide)]
    exact ⟨rfl, rfl, rfl⟩
  · have e63 : ∀ j, 1272 ≤ j → w2.1 63 j = w.1 63 j := fun j hj => (b2.2.1 j hj).trans (by rw [a3 63 (by omega)])
    rcases h9 k hk with ⟨c1, c2⟩ | ⟨l, c1, c2, c3, c4⟩
    · exact Or.inl ⟨by rw [e _ (by omega)]; exact c1, by rw [e63 _ (by omega)]; exact c2⟩
    · refine Or.inr ⟨l, c1, c2, ⟨by rw [e _ (by omega)]; exact c3.1, CDl_fr l (fun j hj => ?_) c3.2⟩, MKept_fr h1 c1 c2 (by rw [e 62 (by omega)]) (e 64 (by omega)) (e 65 (by omega)) (fun j hj => e63 _ (by omega)) c4⟩
      rw [e (24 + 4 * k + 1) (by omega), e (24 + 4 * k + 2) (by omega), e (24 + 4 * k + 3) (by omega)]
      exact ⟨rfl, rfl, rfl⟩
theorem R_deed {w w1 w2 : sm_Mem} {B : HBase} {ds : List Deed} {d : Deed} (hc : RC w) (h : RHs w B ds) (hl : ds.length < 40) (hd : okD (playV B ds) d) (a1 : CHX w1 (playV B (d :: ds))) (a2 : CD w1 45 (d :: ds)) (a3 : ∀ a, (a < 36 ∨ 48 < a ∨ a = 37 ∨ a = 38 ∨ a = 39 ∨ a = 40) → w1.1 a = w.1 a) (a4 : w1.2 = w.2) (b1 : MKept w2 B 0 (d :: ds)) (b2 : QFr (fun j => 1272 ≤ j) w1 w2) : R w2 :=
  ⟨RC_fr (fun a ha => by rw [b2.1 a (by omega), a3 a (by omega)]) (b2.2.2.trans a4) hc, B, d :: ds, RHs_deed h hl hd a1 a2 a3 b1 b2⟩
theorem hs_isFull {ds : List Deed} {w : sm_Mem} (h : CD w 45 ds) (hl : ds.length ≤ 40) : ff_hs_isFull w = some (.int (if ds.length < 40 then u32 0 else u32 1), w) := by
  unfold ff_hs_isFull
  rw [h.1]
  simp (disch := omega) only [u32_lit, u32_lt]
  split <;> rfl
/-- the reference's house in a memory in which the class alone has gone on -/
theorem MKept_c {w w1 : sm_Mem} {B : HBase} {b : Nat} {ds : List Deed} (hB : BOk B) (hl : ds.length ≤ 40) (hv : validV B ds) (a3 : ∀ a, 48 < a → w1.1 a = w.1 a) (H : MKept w B b ds) : MKept w1 B b ds := MKept_fr hB hl hv (by rw [a3 62 (by omega)]) (a3 64 (by omega)) (a3 65 (by omega)) (fun j _ => by rw [a3 63 (by omega)]) H
theorem op_say {i x : Int32} {w : sm_Mem} (h : R w) : Both (ff_ho_say i x) (ff_mo_say i x) R w := by
  obtain ⟨hc, B, ds, hh⟩ := id h
  obtain ⟨hok, hn, n1, n2, n6⟩ := hh.n
  obtain ⟨h1, h2, h3, h4, h5, h6, h7, h8, h9⟩ := id hh
  rcases aCases i B.1 with hi | ⟨i, hi, -, rfl⟩
  · refine BothR_same h (-u32 1) ?_ ?_
    · unfold ff_ho_say
      simp (disch := omega) only [u32_lit, sm_let_eq, sm_bind_some, sm_cI_some, sm_cV_some, sm_cL_some, sm_rd_u, sm_wr_u, u32_add, u32_mul, u32_sub, u32_le, u32_lt, u32_eq, u32_eq_neg, u32_neg_eq, u32_neg_neg, u32_le_neg, u32_neg_lt, u32_lt_neg, u32_neg_le, u10, u01, u3n0, u1n0, u4n0, n9_lt, n1_lt, n9_neg, n1_neg, if_true, if_false, if_pos, if_neg, ne_eq, not_true_eq_false, not_false_eq_true, ho_isSpeaker_bad n1 n6 hi]
    · unfold ff_mo_say
      simp (disch := omega) only [u32_lit, sm_let_eq, sm_bind_some, sm_cI_some, sm_cV_some, sm_cL_some, sm_rd_u, sm_wr_u, u32_add, u32_mul, u32_sub, u32_le, u32_lt, u32_eq, u32_eq_neg, u32_neg_eq, u32_neg_neg, u32_le_neg, u32_neg_lt, u32_lt_neg, u32_neg_le, u10, u01, u3n0, u1n0, u4n0, n9_lt, n1_lt, n9_neg, n1_neg, if_true, if_false, if_pos, if_neg, ne_eq, not_true_eq_false, not_false_eq_true, mo_isSpeaker_bad n2 n6 hi]
  rcases aCases x 6 with hx | ⟨x, hx, -, rfl⟩
  · refine BothR_same h (-u32 1) ?_ ?_
    · unfold ff_ho_say
      simp (disch := omega) only [u32_lit, sm_let_eq, sm_bind_some, sm_cI_some, sm_cV_some, sm_cL_some, sm_rd_u, sm_wr_u, u32_add, u32_mul, u32_sub, u32_le, u32_lt, u32_eq, u32_eq_neg, u32_neg_eq, u32_neg_neg, u32_le_neg, u32_neg_lt, u32_lt_neg, u32_neg_le, u10, u01, u3n0, u1n0, u4n0, n9_lt, n1_lt, n9_neg, n1_neg, if_true, if_false, if_pos, if_neg, ne_eq, not_true_eq_false, not_false_eq_true, ho_isSpeaker_good n1 n6 hi, ho_within_bad hx]
    · unfold ff_mo_say
      simp (disch := omega) only [u32_lit, sm_let_eq, sm_bind_some, sm_cI_some, sm_cV_some, sm_cL_some, sm_rd_u, sm_wr_u, u32_add, u32_mul, u32_sub, u32_le, u32_lt, u32_eq, u32_eq_neg, u32_neg_eq, u32_neg_neg, u32_le_neg, u32_neg_lt, u32_lt_neg, u32_neg_le, u10, u01, u3n0, u1n0, u4n0, n9_lt, n1_lt, n9_neg, n1_neg, if_true, if_false, if_pos, if_neg, ne_eq, not_true_eq_false, not_false_eq_true, mo_isSpeaker_good n2 n6 hi, mo_isWord_bad hx]
  have hi' : i < hN (playV B ds).1 := by omega
  cases hcan : canV (playV B ds).1 i x with
  | false =>
    refine BothR_same h (-u32 4) ?_ ?_
    · unfold ff_ho_say
      simp (disch := omega) only [u32_lit, sm_let_eq, sm_bind_some, sm_cI_some, sm_cV_some, sm_cL_some, sm_rd_u, sm_wr_u, u32_add, u32_mul, u32_sub, u32_le, u32_lt, u32_eq, u32_eq_neg, u32_neg_eq, u32_neg_neg, u32_le_neg, u32_neg_lt, u32_lt_neg, u32_neg_le, u10, u01, u3n0, u1n0, u4n0, n9_lt, n1_lt, n9_neg, n1_neg, if_true, if_false, if_pos, if_neg, ne_eq, not_true_eq_false, not_false_eq_true, ho_isSpeaker_good n1 n6 hi, ho_within_good hx, ho_can h6.1 hok hi' hx, hcan, Bool.toNat_false]
    · unfold ff_mo_say
      simp (disch := omega) only [u32_lit, sm_let_eq, sm_bind_some, sm_cI_some, sm_cV_some, sm_cL_some, sm_rd_u, sm_wr_u, u32_add, u32_mul, u32_sub, u32_le, u32_lt, u32_eq, u32_eq_neg, u32_neg_eq, u32_neg_neg, u32_le_neg, u32_neg_lt, u32_lt_neg, u32_neg_le, u10, u01, u3n0, u1n0, u4n0, n9_lt, n1_lt, n9_neg, n1_neg, if_true, if_false, if_pos, if_neg, ne_eq, not_true_eq_false, not_false_eq_true, mo_isSpeaker_good n2 n6 hi, mo_isWord_good hx, mo_mayNext h8.2.1.1 hok (show 0 ≤ 5152 by omega) hi' hx, hcan, Bool.toNat_false]
  | true =>
    by_cases hl : ds.length < 40
    · have hd : okD (playV B ds) (0, i, x) := Or.inl ⟨rfl, hi', hx, hcan⟩
      obtain ⟨w1, a1, a2, a3, a4, a5⟩ := hs_enact hh hl hd
      obtain ⟨w2, w3, b1, b2, b3, b4⟩ := mo_doSay (w := w1) (x := x) h1 hl h5 (MKept_c h1 h4 h5 (fun a ha => a4 a (by omega)) h8) hi' hcan
      refine Both_mk (.int (u32 ((hO (playV B ds).1).length + 1))) w1 w3 ?_ ?_ (R_deed hc hh hl hd a2 a3 a4 a5 b3 b4)
      · unfold ff_ho_say
        simp (disch := omega) only [u32_lit, sm_let_eq, sm_bind_some, sm_cI_some, sm_cV_some, sm_cL_some, sm_rd_u, sm_wr_u, u32_add, u32_mul, u32_sub, u32_le, u32_lt, u32_eq, u32_eq_neg, u32_neg_eq, u32_neg_neg, u32_le_neg, u32_neg_lt, u32_lt_neg, u32_neg_le, u10, u01, u3n0, u1n0, u4n0, n9_lt, n1_lt, n9_neg, n1_neg, if_true, if_false, if_pos, if_neg, ne_eq, not_true_eq_false, not_false_eq_true, ho_isSpeaker_good n1 n6 hi, ho_within_good hx, ho_can h6.1 hok hi' hx, hcan, Bool.toNat_true, hs_isFull h7 h4, if_pos hl]
        rw [a1]
        simp only [sm_cV_some]
        rw [a2.1.2.2.2.1]
        rfl
      · have n2' : w1.1 62 1 = u32 B.1 := by rw [a4 62 (by omega)]; exact n2
        have m0 : MKept w1 B 0 ds := MKept_c h1 h4 h5 (fun a ha => a4 a (by omega)) h8
        have m1 := m0.1
        have m2 := b3.2.1.1.2.2.2.1
        rw [Nat.zero_add] at m2
        unfold ff_mo_say
        simp (disch := omega) only [u32_lit, sm_let_eq, sm_bind_some, sm_cI_some, sm_cV_some, sm_cL_some, sm_rd_u, sm_wr_u, u32_add, u32_mul, u32_sub, u32_le, u32_lt, u32_eq, u32_eq_neg, u32_neg_eq, u32_neg_neg, u32_le_neg, u32_neg_lt, u32_lt_neg, u32_neg_le, u10, u01, u3n0, u1n0, u4n0, n9_lt, n1_lt, n9_neg, n1_neg, if_true, if_false, if_pos, if_neg, ne_eq, not_true_eq_false, not_false_eq_true, mo_isSpeaker_good n2' n6 hi, mo_isWord_good hx, mo_mayNext m0.2.1.1 hok (show 0 ≤ 5152 by omega) hi' hx, hcan, Bool.toNat_true, m1, b1, b2, m2]
        rfl
    · refine BothR_same h (-u32 2) ?_ ?_
      · unfold ff_ho_say
        simp (disch := omega) only [u32_lit, sm_let_eq, sm_bind_some, sm_cI_some, sm_cV_some, sm_cL_some, sm_rd_u, sm_wr_u, u32_add, u32_mul, u32_sub, u32_le, u32_lt, u32_eq, u32_eq_neg, u32_neg_eq, u32_neg_neg, u32_le_neg, u32_neg_lt, u32_lt_neg, u32_neg_le, u10, u01, u3n0, u1n0, u4n0, n9_lt, n1_lt, n9_neg, n1_neg, if_true, if_false, if_pos, if_neg, ne_eq, not_true_eq_false, not_false_eq_true, ho_isSpeaker_good n1 n6 hi, ho_within_good hx, ho_can h6.1 hok hi' hx, hcan, Bool.toNat_true, hs_isFull h7 h4, if_neg hl]
      · unfold ff_mo_say
        have m1 := h8.1
        simp (disch := omega) only [u32_lit, sm_let_eq, sm_bind_some, sm_cI_some, sm_cV_some, sm_cL_some, sm_rd_u, sm_wr_u, u32_add, u32_mul, u32_sub, u32_le, u32_lt, u32_eq, u32_eq_neg, u32_neg_eq, u32_neg_neg, u32_le_neg, u32_neg_lt, u32_lt_neg, u32_neg_le, u10, u01, u3n0, u1n0, u4n0, n9_lt, n1_lt, n9_neg, n1_neg, if_true, if_false, if_pos, if_neg, ne_eq, not_true_eq_false, not_false_eq_true, mo_isSpeaker_good n2 n6 hi, mo_isWord_good hx, mo_mayNext h8.2.1.1 hok (show 0 ≤ 5152 by omega) hi' hx, hcan, Bool.toNat_true, m1]
theorem op_end {w : sm_Mem} (h : R w) : Both ff_ho_end ff_mo_end R w := by
  obtain ⟨hc, B, ds, hh⟩ := id h
  obtain ⟨hok, hn, n1, n2, n6⟩ := hh.n
  obtain ⟨h1, h2, h3, h4, h5, h6, h7, h8, h9⟩ := id hh
  have c1 := h6.1.2.2.2.1
  have m1 := h8.2.1.1.2.2.2.1
  rw [Nat.zero_add] at m1
  have l8 := hok.2.2.2.1
  by_cases h0 : (hO (playV B ds).1).length = 0
  · refine BothR_same h (-u32 4) ?_ ?_
    · unfold ff_ho_end
      simp (disch := omega) only [u32_lit, sm_let_eq, sm_bind_some, sm_cI_some, sm_cV_some, sm_cL_some, sm_rd_u, sm_wr_u, u32_add, u32_mul, u32_sub, u32_le, u32_lt, u32_eq, u32_eq_neg, u32_neg_eq, u32_neg_neg, u32_le_neg, u32_neg_lt, u32_lt_neg, u32_neg_le, u10, u01, u3n0, u1n0, u4n0, n9_lt, n1_lt, n9_neg, n1_neg, if_true, if_false, if_pos, if_neg, ne_eq, not_true_eq_false, not_false_eq_true, c1, h0]
    · unfold ff_mo_end
      simp (disch := omega) only [u32_lit, sm_let_eq, sm_bind_some, sm_cI_some, sm_cV_some, sm_cL_some, sm_rd_u, sm_wr_u, u32_add, u32_mul, u32_sub, u32_le, u32_lt, u32_eq, u32_eq_neg, u32_neg_eq, u32_neg_neg, u32_le_neg, u32_neg_lt, u32_lt_neg, u32_neg_le, u10, u01, u3n0, u1n0, u4n0, n9_lt, n1_lt, n9_neg, n1_neg, if_true, if_false, if_pos, if_neg, ne_eq, not_true_eq_false, not_false_eq_true, m1, h0]
  by_cases hl : ds.length < 40
  · have hd : okD (playV B ds) (1, 0, 0) := Or.inr (Or.inl ⟨rfl, rfl, rfl⟩)
    obtain ⟨w1, a1, a2, a3, a4, a5⟩ := hs_enact hh hl hd
    have m0 : MKept w1 B 0 ds := MKept_c h1 h4 h5 (fun a ha => a4 a (by omega)) h8
    obtain ⟨w3, b2, b3, b4⟩ := mo_doEnd (w := w1) h1 hl h5 m0
    refine Both_mk (.int (u32 (hO (playV B ds).1).length)) w1 w3 ?_ ?_ (R_deed hc hh hl hd a2 a3 a4 a5 b3 b4)
    · unfold ff_ho_end
      simp (disch := omega) only [u32_lit, sm_let_eq, sm_bind_some, sm_cI_some, sm_cV_some, sm_cL_some, sm_rd_u, sm_wr_u, u32_add, u32_mul, u32_sub, u32_le, u32_lt, u32_eq, u32_eq_neg, u32_neg_eq, u32_neg_neg, u32_le_neg, u32_neg_lt, u32_lt_neg, u32_neg_le, u10, u01, u3n0, u1n0, u4n0, n9_lt, n1_lt, n9_neg, n1_neg, if_true, if_false, if_pos, if_neg, ne_eq, not_true_eq_false, not_false_eq_true, c1, hs_isFull h7 h4, if_pos hl]
      rw [a1]
      rfl
    · have m2 := m0.2.1.1.2.2.2.1
      rw [Nat.zero_add] at m2
      have m3 := m0.1
      unfold ff_mo_end
      simp (disch := omega) only [u32_lit, sm_let_eq, sm_bind_some, sm_cI_some, sm_cV_some, sm_cL_some, sm_rd_u, sm_wr_u, u32_add, u32_mul, u32_sub, u32_le, u32_lt, u32_eq, u32_eq_neg, u32_neg_eq, u32_neg_neg, u32_le_neg, u32_neg_lt, u32_lt_neg, u32_neg_le, u10, u01, u3n0, u1n0, u4n0, n9_lt, n1_lt, n9_neg, n1_neg, if_true, if_false, if_pos, if_neg, ne_eq, not_true_eq_false, not_false_eq_true, m2, m3, b2]
  · refine BothR_same h (-u32 2) ?_ ?_
    · unfold ff_ho_end
      simp (disch := omega) only [u32_lit, sm_let_eq, sm_bind_some, sm_cI_some, sm_cV_some, sm_cL_some, sm_rd_u, sm_wr_u, u32_add, u32_mul, u32_sub, u32_le, u32_lt, u32_eq, u32_eq_neg, u32_neg_eq, u32_neg_neg, u32_le_neg, u32_neg_lt, u32_lt_neg, u32_neg_le, u10, u01, u3n0, u1n0, u4n0, n9_lt, n1_lt, n9_neg, n1_neg, if_true, if_false, if_pos, if_neg, ne_eq, not_true_eq_false, not_false_eq_true, c1, hs_isFull h7 h4, if_neg hl]
    · have m3 := h8.1
      unfold ff_mo_end
      simp (disch := omega) only [u32_lit, sm_let_eq, sm_bind_some, sm_cI_some, sm_cV_some, sm_cL_some, sm_rd_u, sm_wr_u, u32_add, u32_mul, u32_sub, u32_le, u32_lt, u32_eq, u32_eq_neg, u32_neg_eq, u32_neg_neg, u32_le_neg, u32_neg_lt, u32_lt_neg, u32_neg_le, u10, u01, u3n0, u1n0, u4n0, n9_lt, n1_lt, n9_neg, n1_neg, if_true, if_false, if_pos, if_neg, ne_eq, not_true_eq_false, not_false_eq_true, m1, m3]
theorem op_hour {w : sm_Mem} (h : R w) : Both ff_ho_hour ff_mo_hour R w := by
  obtain ⟨hc, B, ds, hh⟩ := id h
  obtain ⟨hok, hn, n1, n2, n6⟩ := hh.n
  obtain ⟨h1, h2, h3, h4, h5, h6, h7, h8, h9⟩ := id hh
  by_cases h0 : B.1 = 0
  · refine BothR_same h (-u32 4) ?_ ?_
    · unfold ff_ho_hour
      simp (disch := omega) only [u32_lit, sm_let_eq, sm_bind_some, sm_cI_some, sm_cV_some, sm_cL_some, sm_rd_u, sm_wr_u, u32_add, u32_mul, u32_sub, u32_le, u32_lt, u32_eq, u32_eq_neg, u32_neg_eq, u32_neg_neg, u32_le_neg, u32_neg_lt, u32_lt_neg, u32_neg_le, u10, u01, u3n0, u1n0, u4n0, n9_lt, n1_lt, n9_neg, n1_neg, if_true, if_false, if_pos, if_neg, ne_eq, not_true_eq_false, not_false_eq_true, n1, h0]
    · unfold ff_mo_hour
      simp (disch := omega) only [u32_lit, sm_let_eq, sm_bind_some, sm_cI_some, sm_cV_some, sm_cL_some, sm_rd_u, sm_wr_u, u32_add, u32_mul, u32_sub, u32_le, u32_lt, u32_eq, u32_eq_neg, u32_neg_eq, u32_neg_neg, u32_le_neg, u32_neg_lt, u32_lt_neg, u32_neg_le, u10, u01, u3n0, u1n0, u4n0, n9_lt, n1_lt, n9_neg, n1_neg, if_true, if_false, if_pos, if_neg, ne_eq, not_true_eq_false, not_false_eq_true, n2, h0]
  by_cases hl : ds.length < 40
  · have hd : okD (playV B ds) (2, 0, 0) := Or.inr (Or.inr (Or.inl ⟨rfl, rfl, rfl⟩))
    obtain ⟨w1, a1, a2, a3, a4, a5⟩ := hs_enact hh hl hd
    have m0 : MKept w1 B 0 ds := MKept_c h1 h4 h5 (fun a ha => a4 a (by omega)) h8
    obtain ⟨w3, b2, b3, b4⟩ := mo_doHour (w := w1) h1 hl h5 (fun i hi => by rw [a4 66 (by omega)]; exact h3 i hi) m0
    refine Both_mk (.int (u32 (hH (playV B ds).1 + 1))) w1 w3 ?_ ?_ (R_deed hc hh hl hd a2 a3 a4 a5 b3 b4)
    · unfold ff_ho_hour
      simp (disch := omega) only [u32_lit, sm_let_eq, sm_bind_some, sm_cI_some, sm_cV_some, sm_cL_some, sm_rd_u, sm_wr_u, u32_add, u32_mul, u32_sub, u32_le, u32_lt, u32_eq, u32_eq_neg, u32_neg_eq, u32_neg_neg, u32_le_neg, u32_neg_lt, u32_lt_neg, u32_neg_le, u10, u01, u3n0, u1n0, u4n0, n9_lt, n1_lt, n9_neg, n1_neg, if_true, if_false, if_pos, if_neg, ne_eq, not_true_eq_false, not_false_eq_true, n1, hs_isFull h7 h4, if_pos hl]
      rw [a1]
      simp only [sm_cV_some]
      rw [a2.1.2.2.1]
      rfl
    · have m3 := m0.1
      have n2' : w1.1 62 1 = u32 B.1 := by rw [a4 62 (by omega)]; exact n2
      unfold ff_mo_hour
      simp (disch := omega) only [u32_lit, sm_let_eq, sm_bind_some, sm_cI_some, sm_cV_some, sm_cL_some, sm_rd_u, sm_wr_u, u32_add, u32_mul, u32_sub, u32_le, u32_lt, u32_eq, u32_eq_neg, u32_neg_eq, u32_neg_neg, u32_le_neg, u32_neg_lt, u32_lt_neg, u32_neg_le, u10, u01, u3n0, u1n0, u4n0, n9_lt, n1_lt, n9_neg, n1_neg, if_true, if_false, if_pos, if_neg, ne_eq, not_true_eq_false, not_false_eq_true, n2', m3, b2]
  · refine BothR_same h (-u32 2) ?_ ?_
    · unfold ff_ho_hour
      simp (disch := omega) only [u32_lit, sm_let_eq, sm_bind_some, sm_cI_some, sm_cV_some, sm_cL_some, sm_rd_u, sm_wr_u, u32_add, u32_mul, u32_sub, u32_le, u32_lt, u32_eq, u32_eq_neg, u32_neg_eq, u32_neg_neg, u32_le_neg, u32_neg_lt, u32_lt_neg, u32_neg_le, u10, u01, u3n0, u1n0, u4n0, n9_lt, n1_lt, n9_neg, n1_neg, if_true, if_false, if_pos, if_neg, ne_eq, not_true_eq_false, not_false_eq_true, n1, hs_isFull h7 h4, if_neg hl]
    · have m3 := h8.1
      unfold ff_mo_hour
      simp (disch := omega) only [u32_lit, sm_let_eq, sm_bind_some, sm_cI_some, sm_cV_some, sm_cL_some, sm_rd_u, sm_wr_u, u32_add, u32_mul, u32_sub, u32_le, u32_lt, u32_eq, u32_eq_neg, u32_neg_eq, u32_neg_neg, u32_le_neg, u32_neg_lt, u32_lt_neg, u32_neg_le, u10, u01, u3n0, u1n0, u4n0, n9_lt, n1_lt, n9_neg, n1_neg, if_true, if_false, if_pos, if_neg, ne_eq, not_true_eq_false, not_false_eq_true, n2, m3]
theorem walk_way {a b : Nat} (ha : a < 6) (hb : b < 6) : (if u32 0 ≤ u32 a - u32 b then u32 a - u32 b else u32 0 - (u32 a - u32 b)) = u32 (if a ≤ b then b - a else a - b) ∧ ((u32 b - u32 a = u32 0) = (a = b)) ∧ (if u32 0 ≤ u32 b - u32 a then u32 b - u32 a else -(u32 b - u32 a)) = u32 (if a ≤ b then b - a else a - b) ∧ (if a ≤ b then b - a else a - b) < 6 := by
  have key : ∀ a, a < 6 → ∀ b, b < 6 → (decide ((if u32 0 ≤ u32 a - u32 b then u32 a - u32 b else u32 0 - (u32 a - u32 b)) = u32 (if a ≤ b then b - a else a - b)) && (decide (u32 b - u32 a = u32 0) == decide (a = b)) && decide ((if u32 0 ≤ u32 b - u32 a then u32 b - u32 a else -(u32 b - u32 a)) = u32 (if a ≤ b then b - a else a - b))) = true := by decide +kernel
  have h := key a ha b hb
  simp only [Bool.and_eq_true, decide_eq_true_eq, beq_iff_eq, decide_eq_decide] at h
  exact ⟨h.1.1, propext h.1.2, h.2, by split <;> omega⟩
theorem n10 : ((1 : Nat) = 0) = False := eq_false (by decide)
theorem op_walk {i x : Int32} {w : sm_Mem} (h : R w) : Both (ff_ho_walk i x) (ff_mo_walk i x) R w := by
  obtain ⟨hc, B, ds, hh⟩ := id h
  obtain ⟨hok, hn, n1, n2, n6⟩ := hh.n
  obtain ⟨h1, h2, h3, h4, h5, h6, h7, h8, h9⟩ := id hh
  rcases aCases i B.1 with hi | ⟨i, hi, -, rfl⟩
  · refine BothR_same h (-u32 1) ?_ ?_
    · unfold ff_ho_walk
      simp (disch := omega) only [u32_lit, sm_let_eq, sm_bind_some, sm_cI_some, sm_cV_some, sm_cL_some, sm_rd_u, sm_wr_u, u32_add, u32_mul, u32_sub, u32_le, u32_lt, u32_eq, u32_eq_neg, u32_neg_eq, u32_neg_neg, u32_le_neg, u32_neg_lt, u32_lt_neg, u32_neg_le, u10, u01, u3n0, u1n0, u4n0, n9_lt, n1_lt, n9_neg, n1_neg, if_true, if_false, if_pos, if_neg, ne_eq, not_true_eq_false, not_false_eq_true, ho_isSpeaker_bad n1 n6 hi]
    · unfold ff_mo_walk
      simp (disch := omega) only [u32_lit, sm_let_eq, sm_bind_some, sm_cI_some, sm_cV_some, sm_cL_some, sm_rd_u, sm_wr_u, u32_add, u32_mul, u32_sub, u32_le, u32_lt, u32_eq, u32_eq_neg, u32_neg_eq, u32_neg_neg, u32_le_neg, u32_neg_lt, u32_lt_neg, u32_neg_le, u10, u01, u3n0, u1n0, u4n0, n9_lt, n1_lt, n9_neg, n1_neg, if_true, if_false, if_pos, if_neg, ne_eq, not_true_eq_false, not_false_eq_true, mo_isSpeaker_bad n2 n6 hi]
  rcases aCases x 6 with hx | ⟨x, hx, -, rfl⟩
  · refine BothR_same h (-u32 1) ?_ ?_
    · unfold ff_ho_walk
      simp (disch := omega) only [u32_lit, sm_let_eq, sm_bind_some, sm_cI_some, sm_cV_some, sm_cL_some, sm_rd_u, sm_wr_u, u32_add, u32_mul, u32_sub, u32_le, u32_lt, u32_eq, u32_eq_neg, u32_neg_eq, u32_neg_neg, u32_le_neg, u32_neg_lt, u32_lt_neg, u32_neg_le, u10, u01, u3n0, u1n0, u4n0, n9_lt, n1_lt, n9_neg, n1_neg, if_true, if_false, if_pos, if_neg, ne_eq, not_true_eq_false, not_false_eq_true, ho_isSpeaker_good n1 n6 hi, ho_within_bad hx]
    · unfold ff_mo_walk
      have hq : ∀ w, ff_mo_in x.toInt64 0 5 w = some (.int (u32 0), w) := fun w => mo_in_bad hx rfl
      simp (disch := omega) only [u32_lit, sm_let_eq, sm_bind_some, sm_cI_some, sm_cV_some, sm_cL_some, sm_rd_u, sm_wr_u, u32_add, u32_mul, u32_sub, u32_le, u32_lt, u32_eq, u32_eq_neg, u32_neg_eq, u32_neg_neg, u32_le_neg, u32_neg_lt, u32_lt_neg, u32_neg_le, u10, u01, u3n0, u1n0, u4n0, n9_lt, n1_lt, n9_neg, n1_neg, if_true, if_false, if_pos, if_neg, ne_eq, not_true_eq_false, not_false_eq_true, mo_isSpeaker_good n2 n6 hi, hq]
  have hi' : i < hN (playV B ds).1 := by omega
  have hr := (hok.2.1 i hi').2.2.1
  obtain ⟨w1e, w2e, w3e, w4e⟩ := walk_way hr hx
  have hq : ∀ w, ff_mo_in (u32 x).toInt64 0 5 w = some (.int (u32 1), w) := fun w => mo_in_good hx (by decide) rfl
  have cr := (h6.1.2.1 i hi').2.2.1
  have mr : ∀ (w : sm_Mem), MKept w B 0 ds → w.1 63 (20 + i) = u32 (hR (playV B ds).1 i) := fun w hw => by
    have := (hw.2.1.1.2.1 i hi').2.2.1
    rw [Nat.zero_add] at this
    exact this
  by_cases hs : hR (playV B ds).1 i = x
  · refine BothR_same h (-u32 4) ?_ ?_
    · unfold ff_ho_walk
      have e0 : (if hR (playV B ds).1 i ≤ x then x - hR (playV B ds).1 i else hR (playV B ds).1 i - x) = 0 := by split <;> omega
      rw [e0] at w1e
      simp (disch := omega) only [u32_lit, sm_cI_some, sm_bind_some, sm_rd_u, u10, if_false, if_true, ho_isSpeaker_good n1 n6 hi, ho_within_good hx, cr, w1e]
    · unfold ff_mo_walk
      simp (disch := omega) only [u32_lit, sm_cI_some, sm_bind_some, sm_rd_u, u10, if_false, if_true, u32_add, mo_isSpeaker_good n2 n6 hi, hq, mr w h8, w2e, if_pos hs]
  have e0 : ¬ (if hR (playV B ds).1 i ≤ x then x - hR (playV B ds).1 i else hR (playV B ds).1 i - x) = 0 := by split <;> omega
  by_cases hl : ds.length < 40
  · have hd : okD (playV B ds) (3, i, x) := Or.inr (Or.inr (Or.inr ⟨rfl, hi', hx⟩))
    obtain ⟨w1, a1, a2, a3, a4, a5⟩ := hs_enact hh hl hd
    have m0 : MKept w1 B 0 ds := MKept_c h1 h4 h5 (fun a ha => a4 a (by omega)) h8
    obtain ⟨w2, b1, b2, b3⟩ := mo_doWalk (w := w1) (x := x) h1 hl h5 m0 hi' hx
    refine Both_mk (.int (u32 (if hR (playV B ds).1 i ≤ x then x - hR (playV B ds).1 i else hR (playV B ds).1 i - x))) w1 _ ?_ ?_ (R_deed hc hh hl hd a2 a3 a4 a5 b2 b3)
    · unfold ff_ho_walk
      simp (disch := omega) only [u32_lit, sm_cI_some, sm_bind_some, sm_rd_u, u10, if_false, if_true, ho_isSpeaker_good n1 n6 hi, ho_within_good hx, cr, w1e, u32_eq, n10, if_neg e0, hs_isFull h7 h4, if_pos hl]
      rw [a1]
      rfl
    · have n2' : w1.1 62 1 = u32 B.1 := by rw [a4 62 (by omega)]; exact n2
      have m3 := m0.1
      unfold ff_mo_walk
      simp (disch := omega) only [u32_lit, sm_cI_some, sm_cV_some, sm_bind_some, sm_rd_u, sm_wr_u, u10, if_false, if_true, u32_add, mo_isSpeaker_good n2' n6 hi, hq, mr w1 m0, w2e, if_neg hs, m3, u32_eq, n10, if_neg (show ¬ ds.length = 40 by omega), b1]
      rw [← w3e]
      by_cases hq0 : u32 0 ≤ u32 x - u32 (hR (playV B ds).1 i)
      · simp only [if_pos hq0]
      · simp only [if_neg hq0]
  · refine BothR_same h (-u32 2) ?_ ?_
    · unfold ff_ho_walk
      simp (disch := omega) only [u32_lit, sm_cI_some, sm_bind_some, sm_rd_u, u10, if_false, if_true, ho_isSpeaker_good n1 n6 hi, ho_within_good hx, cr, w1e, u32_eq, n10, if_neg e0, hs_isFull h7 h4, if_neg hl]
    · have m3 := h8.1
      unfold ff_mo_walk
      simp (disch := omega) only [u32_lit, sm_cI_some, sm_cV_some, sm_bind_some, sm_rd_u, sm_wr_u, u10, if_false, if_true, u32_add, mo_isSpeaker_good n2 n6 hi, hq, mr w h8, w2e, if_neg hs, m3, u32_eq, n10, if_pos (show ds.length = 40 by omega)]
