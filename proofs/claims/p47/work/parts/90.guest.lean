theorem hs_invite {H : HV} {w : sm_Mem} {q : Nat} (hC : CH w H) (hn : hN H < 6) : ∃ w1, ff_hs_invite (u32 q) w = some (.null, w1) ∧ CH w1 (guestH H q 63) ∧ w1.1 36 0 = u32 (hN H + 1) ∧ (∀ j, j ≠ 0 → w1.1 36 j = w.1 36 j) ∧ (∀ a, a ≠ 36 → a ≠ 37 → a ≠ 38 → a ≠ 41 → a ≠ 42 → w1.1 a = w.1 a) ∧ w1.2 = w.2 := by
  obtain ⟨c1, c2, c3, c4, c5⟩ := hC
  refine ⟨sm_wI (sm_wI (sm_wI (sm_wI (sm_wI w 37 (hN H) (u32 0)) 38 (hN H) (u32 63)) 41 (hN H) (u32 q)) 42 (hN H) (u32 9)) 36 0 (u32 (hN H + 1)), ?_, ⟨sm_wI_eq, fun i hi => ?_, ?_, ?_, ?_⟩, sm_wI_eq, fun j hj => ?_, fun a h1 h2 h3 h4 h5 => ?_, rfl⟩
  · unfold ff_hs_invite
    simp (disch := omega) only [u32_lit, c1, u32_lt, if_pos, sm_wr_u, bs_, sm_wI_ne, sm_wI_nj, sm_wI_eq, sm_wA_ne, sm_wA_eq, let_, u32_add]
  · have hi : i < hN H + 1 := hi
    show _ = u32 (updN (hK H) (hN H) 0 i) ∧ _ = u32 (updN (hW H) (hN H) 63 i) ∧ _ = u32 (updN (hR H) (hN H) q i) ∧ _ = u32 (updN (hB H) (hN H) 9 i)
    by_cases e : i = hN H
    · rw [e, updN_eq, updN_eq, updN_eq, updN_eq]
      simp (disch := omega) only [sm_wI_ne, sm_wI_nj, sm_wI_eq, sm_wA_ne, sm_wA_eq, and_self]
    · rw [updN_ne e, updN_ne e, updN_ne e, updN_ne e]
      simp (disch := omega) only [sm_wI_ne, sm_wI_nj, sm_wI_eq, sm_wA_ne, sm_wA_eq]
      exact c2 i (by omega)
  · simp (disch := omega) only [sm_wI_ne, sm_wI_nj, sm_wI_eq, sm_wA_ne, sm_wA_eq]; exact c3
  · simp (disch := omega) only [sm_wI_ne, sm_wI_nj, sm_wI_eq, sm_wA_ne, sm_wA_eq]; exact c4
  · refine ordC_fr _ (fun j _ => ?_) c5
    simp (disch := omega) only [sm_wI_ne, sm_wI_nj, sm_wI_eq, sm_wA_ne, sm_wA_eq, and_self]
  · simp (disch := omega) only [sm_wI_ne, sm_wI_nj, sm_wI_eq, sm_wA_ne, sm_wA_eq]
  · simp (disch := omega) only [sm_wI_ne, sm_wI_nj, sm_wI_eq, sm_wA_ne, sm_wA_eq]
def hasB (gs : List Gl) (H : HV) (q s : Nat) : Bool := !(wys 0 gs (guestH H q s)).isEmpty
theorem guV_wys {n : Nat} {gs : List Gl} {H : HV} : guV gs.length n gs (tre 0 gs H) = (wys 0 gs H).foldl (guS gs.length n gs) none := by
  unfold guV
  rw [foldV (fun o p h => by unfold guS; rw [if_neg h]), tre_wys]
theorem guest_least {gs : List Gl} {H : HV} {q : Nat} (hg : ∀ g, g ∈ gs → g.1 < 6) : leastM (hasB gs H q) 64 = guV gs.length (hN H) gs (tre 0 gs (guestH H q 63)) := by
  rw [guV_wys]
  refine least_same (fun p hp => (wys_each gs _ p hp).1) hg (fun s hs => ?_)
  have hl : LikeN (hN H) s (guestH H q 63) (guestH H q s) := by
    refine ⟨rfl, rfl, rfl, rfl, rfl, rfl, fun i hi => ?_, updN_eq, updN_eq, updN_eq⟩
    show updN (hW H) (hN H) s i = updN (hW H) (hN H) 63 i
    rw [updN_ne hi, updN_ne hi]
  rw [hasS_iff hl hg]
  unfold hasB
  cases wys 0 gs (guestH H q s) with
  | nil => exact ⟨fun h => (by cases h), fun h => absurd rfl h⟩
  | cons p l => exact ⟨fun _ h => (by cases h), fun _ => rfl⟩
