/-! pure: ways, far, heard, sure, few -/
theorem wys_small {sil : Nat} {gs : List Gl} {H : HV} (h6 : hN H ≤ 6) (h5 : gs.length ≤ 5) : (wys sil gs H).length < 100000 := by
  have h1 := wys_len (sil := sil) gs H h6
  have h2 : 6 ^ gs.length ≤ 6 ^ 5 := Nat.pow_le_pow_right (by decide) h5
  have h3 : (6 : Nat) ^ 5 = 7776 := rfl
  omega
theorem wy_fullWays {L : Nat} {gs : List Gl} {gu : Option Nat} {H : HV} {w : sm_Mem} (hG : GW w L gu gs) (hA : AccD w (tre 0 gs H)) : ff_wy_fullWays w = some (.int (u32 (wys 0 gs H).length), w) := by
  obtain ⟨g1, g2, g3, -⟩ := hG
  unfold ff_wy_fullWays
  simp (disch := omega) only [g3, sm_rd_u, bs_, hA.1.1 L (by omega)]
  rw [← g1, cntV_wys]
theorem wy_inAll {L : Nat} {gs : List Gl} {gu : Option Nat} {H : HV} {w : sm_Mem} (hG : GW w L gu gs) (hA : AccD w (tre 0 gs H)) (hB : AccR w L gu gs (tre 0 gs H)) (h6 : hN H ≤ 6) : ff_wy_inAll w = some (.int (if (wys 0 gs H).length = 0 then u32 0 else u32 ((wys 0 gs H).foldl (fun a q => a &&& usedN q) 63)), w) := by
  have g1 := hG.1
  have h5 : gs.length ≤ 5 := by rw [g1]; exact hG.2.1
  have hs := wys_small (sil := 0) h6 h5
  have e10 := hB.2.2.2.1
  rw [← g1, allV_wys, all_none (fun q hq => wys_64 h6 hq)] at e10
  unfold ff_wy_inAll
  rw [wy_fullWays hG hA]
  simp (disch := omega) only [u32_lit, cI_, u32_eq]
  by_cases h0 : (wys 0 gs H).length = 0
  · rw [if_pos h0, if_pos h0]
  · rw [if_neg h0, if_neg h0, e10, if_neg (fun h => h0 (by rw [h]; rfl))]
    rfl
