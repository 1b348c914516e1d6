/-! pure: all ways gone through, by the class -/
def AccD (w : sm_Mem) (V : List (List Nat)) : Prop := AccC w V ∧ ∀ s m, reachV V s = some m → m ≤ 5
def WFr (w w1 : sm_Mem) : Prop := (∀ a, (a < 36 ∨ (36 < a ∧ a < 42) ∨ (44 < a ∧ a < 49) ∨ a = 50 ∨ a = 51 ∨ 55 < a) → w1.1 a = w.1 a) ∧ (∀ j, j ≠ 11 → w1.1 36 j = w.1 36 j) ∧ (∀ j, (j < 8 ∨ j = 12) → w1.1 49 j = w.1 49 j) ∧ w1.2 = w.2
theorem WFr.refl {w : sm_Mem} : WFr w w := ⟨fun _ _ => rfl, fun _ _ => rfl, fun _ _ => rfl, rfl⟩
theorem WFr.trans {w w1 w2 : sm_Mem} (h1 : WFr w w1) (h2 : WFr w1 w2) : WFr w w2 := ⟨fun a ha => (h2.1 a ha).trans (h1.1 a ha), fun j hj => (h2.2.1 j hj).trans (h1.2.1 j hj), fun j hj => (h2.2.2.1 j hj).trans (h1.2.2.1 j hj), h2.2.2.2.trans h1.2.2.2⟩
theorem WFr.s {w w1 : sm_Mem} (h : SFr w w1) : WFr w w1 := ⟨fun a ha => by
  by_cases e : a = 41
  · rw [e]; exact h.2.1
  · exact h.1.1 a (by omega), h.2.2, fun j hj => by rw [h.1.1 49 (by omega)], h.1.2.1⟩
theorem WFr.w {w : sm_Mem} {a j : Nat} {x : Int32} (ha : a = 52 ∨ a = 53 ∨ a = 54) : WFr w (sm_wI w a j x) := ⟨fun b hb => sm_wI_ne (by omega), fun i hi => by rw [sm_wI_ne (by omega)], fun i hi => by rw [sm_wI_ne (by omega)], rfl⟩
theorem WFr.f {w w1 : sm_Mem} (h : FFr w w1) : WFr w w1 := ⟨fun a ha => h.1 a (by omega) (by omega), fun j hj => by rw [h.1 36 (by decide) (by decide)], h.2.1, h.2.2⟩
theorem GW.w {w w1 : sm_Mem} {L : Nat} {gu : Option Nat} {gs : List Gl} (h : GW w L gu gs) (hf : WFr w w1) : GW w1 L gu gs := h.fr (hf.2.2.1 3 (by decide)) (hf.2.2.1 12 (by decide)) (hf.1 50 (by omega)) (hf.1 51 (by omega))
theorem AccR.fr {w w1 : sm_Mem} {L : Nat} {gu : Option Nat} {gs : List Gl} {V : List (List Nat)} (h : AccR w L gu gs V) (h49 : w1.1 49 = w.1 49) (h55 : w1.1 55 = w.1 55) : AccR w1 L gu gs V := by
  unfold AccR at h ⊢
  rw [h49, h55]
  exact h
theorem AccD.fr {w w1 : sm_Mem} {V : List (List Nat)} (h : AccD w V) (h53 : w1.1 53 = w.1 53) (h54 : w1.1 54 = w.1 54) : AccD w1 V := by
  unfold AccD AccC at h ⊢
  rw [h53, h54]
  exact h
theorem AccR_part {w : sm_Mem} {L : Nat} {gu : Option Nat} {gs : List Gl} {V : List (List Nat)} {p : List Nat} (h : AccR w L gu gs V) (hp : ¬ p.length = L) : AccR w L gu gs (V ++ [p]) := by
  have b1 : bestV L (V ++ [p]) = bestV L V := by
    unfold bestV
    rw [fold_snoc]
    unfold bestS
    rw [if_neg hp]
  have b2 : openV L (V ++ [p]) = openV L V := by
    unfold openV
    rw [fold_snoc]
    unfold openS
    rw [if_neg hp]
  have b3 : allV L (V ++ [p]) = allV L V := by
    unfold allV
    rw [fold_snoc]
    unfold allS
    rw [if_neg hp]
  have b4 : anyV L (V ++ [p]) = anyV L V := by
    unfold anyV
    rw [fold_snoc]
    unfold anyS
    rw [if_neg hp]
  have b5 : ∀ g, guV L g gs (V ++ [p]) = guV L g gs V := fun g => by
    unfold guV
    rw [fold_snoc]
    unfold guS
    rw [if_neg hp]
  have b6 : cntV (V ++ [p]) L = cntV V L := by rw [cntV_snoc, if_neg hp, Nat.add_zero]
  unfold AccR at h ⊢
  rw [b1, b2, b3, b4, b6]
  simp only [b5]
  exact h
theorem reach_le {V : List (List Nat)} {p : List Nat} (h : ∀ s m, reachV V s = some m → m ≤ 5) (hp : p.length ≤ 5) : ∀ s m, reachV (V ++ [p]) s = some m → m ≤ 5 := by
  intro s m hm
  have e0 : reachV (V ++ [p]) s = reachS s (reachV V s) p := fold_snoc _ _ _ _
  rw [e0] at hm
  unfold reachS at hm
  split at hm
  · cases e : reachV V s with
    | none => rw [e] at hm; cases hm; exact hp
    | some k =>
      rw [e] at hm
      have hk := h s k e
      dsimp only at hm
      split at hm <;> cases hm <;> omega
  · exact h s m hm
/-- a part of a way is counted -/
theorem AccD_node {w : sm_Mem} {V : List (List Nat)} {p : List Nat} (h : AccD w V) (hp : p.length ≤ 5) (hp6 : ∀ i, i ∈ p → i < 6) : AccD (sm_wI (sm_wI w 53 p.length (u32 (cntV V p.length + 1))) 54 (usedN p) (oAns (reachV (V ++ [p]) (usedN p)))) (V ++ [p]) := by
  refine ⟨⟨fun d hd => ?_, fun s hs => ?_⟩, reach_le h.2 hp⟩
  · rw [sm_wI_ne (by decide), cntV_snoc]
    by_cases e : d = p.length
    · rw [e, sm_wI_eq, if_pos rfl]
    · rw [sm_wI_nj e, if_neg (fun q => e q.symm), Nat.add_zero]
      exact h.1.1 d hd
  · by_cases e : s = usedN p
    · rw [e, sm_wI_eq]
    · rw [sm_wI_nj e, sm_wI_ne (by decide), h.1.2 s hs]
      unfold reachV
      rw [fold_snoc]
      unfold reachS
      rw [if_neg (fun q => e q.symm)]
theorem reach_cell {V : List (List Nat)} {p : List Nat} (h : ∀ s m, reachV V s = some m → m ≤ 5) (hp : p.length ≤ 5) : (if oAns (reachV V (usedN p)) < u32 p.length then u32 p.length else oAns (reachV V (usedN p))) = oAns (reachV (V ++ [p]) (usedN p)) := by
  have e : reachV (V ++ [p]) (usedN p) = reachS (usedN p) (reachV V (usedN p)) p := by
    unfold reachV
    rw [fold_snoc]
  rw [e]
  unfold reachS
  rw [if_pos rfl]
  cases hr : reachV V (usedN p) with
  | none =>
    rw [if_pos (show oAns none < u32 p.length by
      show -u32 9 < u32 p.length
      rw [u32_neg_lt (by omega) (by decide) (by decide)]
      trivial)]
    rfl
  | some m =>
    have hm := h _ m hr
    show (if u32 m < u32 p.length then u32 p.length else u32 m) = _
    by_cases hlt : m < p.length
    · rw [if_pos (by rw [u32_lt (by omega) (by omega)]; exact hlt)]
      dsimp only
      rw [if_pos hlt]
      rfl
    · rw [if_neg (by rw [u32_lt (by omega) (by omega)]; exact hlt)]
      dsimp only
      rw [if_neg hlt]
      rfl
theorem stepV_0 {H : HV} {i : Nat} {g : Gl} : stepV 0 H i g = (roomV H i g && canV H i g.1) := by
  unfold stepV
  rw [Nat.zero_testBit]
  rfl
theorem cntV_le (V : List (List Nat)) (d : Nat) : cntV V d ≤ V.length := List.length_filter_le _ _
theorem wy_goOn {L : Nat} {gu : Option Nat} {gs : List Gl} : ∀ (gr : List Gl) (k : Nat) (p : List Nat) (H : HV) (V : List (List Nat)) (w : sm_Mem), gr.length < k → gs.drop p.length = gr → p.length ≤ L → GW w L gu gs → CH w H → HOk H → AccD w V → AccR w L gu gs V → PW w p → (∀ i, i ∈ p → i < 6) → V.length + (tre 0 gr H).length < 2147483648 → ∃ w1, ff_wy_goOn k (u32 p.length) (u32 (usedN p)) w = some (.null, w1) ∧ CH w1 H ∧ AccD w1 (V ++ (tre 0 gr H).map (fun q => p ++ q)) ∧ AccR w1 L gu gs (V ++ (tre 0 gr H).map (fun q => p ++ q)) ∧ PW w1 p ∧ WFr w w1 := by
  intro gr
  induction gr with
  | nil =>
    intro k p H V w hk hd hpL hG hH hok hC hA hP hp6 hV
    obtain ⟨k, rfl⟩ : ∃ j, k = j + 1 := ⟨k - 1, by omega⟩
    have hL5 := hG.2.1
    have hlen : p.length = L := by
      have := congrArg List.length hd
      rw [List.length_drop, hG.1] at this
      simp at this
      omega
    have hu := usedN_64 hp6
    have hc := cntV_le V p.length
    have hn := AccD_node hC (show p.length ≤ 5 by omega) hp6
    have hR1 : AccR (sm_wI (sm_wI w 53 p.length (u32 (cntV V p.length + 1))) 54 (usedN p) (oAns (reachV (V ++ [p]) (usedN p)))) L gu gs V := hA.fr (by simp (disch := omega) only [sm_wI_ne, sm_wI_nj, sm_wI_eq, sm_wA_ne, sm_wA_eq]) (by simp (disch := omega) only [sm_wI_ne, sm_wI_nj, sm_wI_eq, sm_wA_ne, sm_wA_eq])
    have hF1 : WFr w (sm_wI (sm_wI w 53 p.length (u32 (cntV V p.length + 1))) 54 (usedN p) (oAns (reachV (V ++ [p]) (usedN p)))) := WFr.trans (WFr.w (by omega)) (WFr.w (by omega))
    have pre : ff_wy_goOn (k + 1) (u32 p.length) (u32 (usedN p)) w = sm_cV (ff_wy_finish (u32 (usedN p)) (sm_wI (sm_wI w 53 p.length (u32 (cntV V p.length + 1))) 54 (usedN p) (oAns (reachV (V ++ [p]) (usedN p))))) fun w20 => some (.null, w20) := by
      rw [ff_wy_goOn]
      unfold ff_wy_goOn_0
      simp (disch := omega) only [u32_lit, sm_rd_u, sm_wr_u, sm_bind_some, hC.1.1 p.length (by omega), u32_add, sm_wI_ne, sm_wI_nj, sm_wI_eq, sm_wA_ne, sm_wA_eq, hC.1.2 (usedN p) hu, hG.2.2.1]
      rw [reach_cell hC.2 (by omega), if_neg (by rw [u32_lt (by omega) (by omega)]; omega)]
    have hP1 : PW (sm_wI (sm_wI w 53 p.length (u32 (cntV V p.length + 1))) 54 (usedN p) (oAns (reachV (V ++ [p]) (usedN p)))) p := hP.fr (by simp (disch := omega) only [sm_wI_ne, sm_wI_nj, sm_wI_eq, sm_wA_ne, sm_wA_eq])
    have hc1 : (sm_wI (sm_wI w 53 p.length (u32 (cntV V p.length + 1))) 54 (usedN p) (oAns (reachV (V ++ [p]) (usedN p)))).1 53 L = u32 (cntV V L + 1) := by rw [sm_wI_ne (by decide), ← hlen, sm_wI_eq]
    have hH1 : CH (sm_wI (sm_wI w 53 p.length (u32 (cntV V p.length + 1))) 54 (usedN p) (oAns (reachV (V ++ [p]) (usedN p)))) H := CH_fr (fun a h1 h2 => by simp (disch := omega) only [sm_wI_ne, sm_wI_nj, sm_wI_eq, sm_wA_ne, sm_wA_eq]) hH
    have hVl : V.length + 1 < 2147483648 := hV
    generalize sm_wI (sm_wI w 53 p.length (u32 (cntV V p.length + 1))) 54 (usedN p) (oAns (reachV (V ++ [p]) (usedN p))) = w1 at hn hR1 hF1 pre hP1 hc1 hH1
    obtain ⟨w2, a1, a2, a3⟩ := wy_finish (hG.w hF1) hP1 hlen hp6 hR1 hc1 (by have := cntV_le V L; omega)
    have e : (tre 0 [] H).map (fun q => p ++ q) = [p] := by
      show [p ++ []] = [p]
      rw [List.append_nil]
    rw [e]
    refine ⟨w2, ?_, CH_fr (fun a h1 h2 => a3.1 a (by omega) (by omega)) hH1, hn.fr (a3.1 53 (by decide) (by decide)) (a3.1 54 (by decide) (by decide)), a2, hP1.fr (a3.1 52 (by decide) (by decide)), hF1.trans (WFr.f a3)⟩
    rw [pre, a1]
    rfl
  | cons g gr ih =>
    intro k p H V w hk hd hpL hG hH hok hC hA hP hp6 hV
    rw [List.length_cons] at hk
    obtain ⟨k, rfl⟩ : ∃ j, k = j + 1 := ⟨k - 1, by omega⟩
    have hL5 := hG.2.1
    have h6 := hok.1
    obtain ⟨d1, d2, d3⟩ := drop_cons hd
    have hlen : p.length < L := by rw [hG.1] at d3; exact d3
    have hu := usedN_64 hp6
    have hc := cntV_le V p.length
    have hn := AccD_node hC (show p.length ≤ 5 by omega) hp6
    have hR1 : AccR (sm_wI (sm_wI w 53 p.length (u32 (cntV V p.length + 1))) 54 (usedN p) (oAns (reachV (V ++ [p]) (usedN p)))) L gu gs (V ++ [p]) := AccR_part (hA.fr (by simp (disch := omega) only [sm_wI_ne, sm_wI_nj, sm_wI_eq, sm_wA_ne, sm_wA_eq]) (by simp (disch := omega) only [sm_wI_ne, sm_wI_nj, sm_wI_eq, sm_wA_ne, sm_wA_eq])) (by omega)
    have hF1 : WFr w (sm_wI (sm_wI w 53 p.length (u32 (cntV V p.length + 1))) 54 (usedN p) (oAns (reachV (V ++ [p]) (usedN p)))) := WFr.trans (WFr.w (by omega)) (WFr.w (by omega))
    have pre : ff_wy_goOn (k + 1) (u32 p.length) (u32 (usedN p)) w = ff_wy_goOn_42_f (ff_wy_goOn k) 1000000 (u32 p.length) (u32 (usedN p)) (u32 0) (sm_wI (sm_wI w 53 p.length (u32 (cntV V p.length + 1))) 54 (usedN p) (oAns (reachV (V ++ [p]) (usedN p)))) := by
      rw [ff_wy_goOn]
      unfold ff_wy_goOn_0
      simp (disch := omega) only [u32_lit, sm_rd_u, sm_wr_u, sm_bind_some, hC.1.1 p.length (by omega), u32_add, sm_wI_ne, sm_wI_nj, sm_wI_eq, sm_wA_ne, sm_wA_eq, hC.1.2 (usedN p) hu, hG.2.2.1]
      rw [reach_cell hC.2 (by omega), if_pos (by rw [u32_lt (by omega) (by omega)]; omega)]
      unfold ff_wy_goOn_42
      rw [sm_N_eq]
    have hP1 : PW (sm_wI (sm_wI w 53 p.length (u32 (cntV V p.length + 1))) 54 (usedN p) (oAns (reachV (V ++ [p]) (usedN p)))) p := hP.fr (by simp (disch := omega) only [sm_wI_ne, sm_wI_nj, sm_wI_eq, sm_wA_ne, sm_wA_eq])
    have hH1 : CH (sm_wI (sm_wI w 53 p.length (u32 (cntV V p.length + 1))) 54 (usedN p) (oAns (reachV (V ++ [p]) (usedN p)))) H := CH_fr (fun a h1 h2 => by simp (disch := omega) only [sm_wI_ne, sm_wI_nj, sm_wI_eq, sm_wA_ne, sm_wA_eq]) hH
    generalize sm_wI (sm_wI w 53 p.length (u32 (cntV V p.length + 1))) 54 (usedN p) (oAns (reachV (V ++ [p]) (usedN p))) = w1 at hn hR1 hF1 pre hP1 hH1
    obtain ⟨gw1, gw2, gw3, gw4⟩ := hG.2.2.2.2.2 p.length g d1
    -- speaker by speaker
    have loop : ∀ (m i F : Nat) (V : List (List Nat)) (w : sm_Mem), i + m = hN H → m < F → GW w L gu gs → CH w H → AccD w V → AccR w L gu gs V → PW w p → V.length + (lpF (fun i => if stepV 0 H i g = true then (tre 0 gr (pushV H i g.1)).map (fun q => i :: q) else []) i m).length < 2147483648 → ∃ w2, ff_wy_goOn_42_f (ff_wy_goOn k) F (u32 p.length) (u32 (usedN p)) (u32 i) w = some (.null, w2) ∧ CH w2 H ∧ AccD w2 (V ++ (lpF (fun i => if stepV 0 H i g = true then (tre 0 gr (pushV H i g.1)).map (fun q => i :: q) else []) i m).map (fun q => p ++ q)) ∧ AccR w2 L gu gs (V ++ (lpF (fun i => if stepV 0 H i g = true then (tre 0 gr (pushV H i g.1)).map (fun q => i :: q) else []) i m).map (fun q => p ++ q)) ∧ PW w2 p ∧ WFr w w2 := by
      intro m
      induction m with
      | zero =>
        intro i F V w hm hF hG hH hC hA hP hV
        obtain ⟨F, rfl⟩ : ∃ G, F = G + 1 := ⟨F - 1, by omega⟩
        rw [lpF, List.map_nil, List.append_nil]
        refine ⟨w, ?_, hH, hC, hA, hP, WFr.refl⟩
        rw [ff_wy_goOn_42_f]
        unfold ff_wy_goOn_42_b
        simp (disch := omega) only [u32_lit, hH.1, u32_le, if_pos]
      | succ m ihm =>
        intro i F V w hm hF hG hH hC hA hP hV
        obtain ⟨F, rfl⟩ : ∃ G, F = G + 1 := ⟨F - 1, by omega⟩
        obtain ⟨gw1, gw2, -, -⟩ := hG.2.2.2.2.2 p.length g d1
        have hi : i < hN H := by omega
        rw [lpF, List.length_append] at hV
        rw [lpF]
        have cn := ho_can hH hok hi gw3
        have skip : stepV 0 H i g = false → ∃ w2, ff_wy_goOn_42_f (ff_wy_goOn k) F (u32 p.length) (u32 (usedN p)) (u32 (i + 1)) w = some (.null, w2) ∧ CH w2 H ∧ AccD w2 (V ++ (((if stepV 0 H i g = true then (tre 0 gr (pushV H i g.1)).map (fun q => i :: q) else []) ++ lpF (fun i => if stepV 0 H i g = true then (tre 0 gr (pushV H i g.1)).map (fun q => i :: q) else []) (i + 1) m).map (fun q => p ++ q))) ∧ AccR w2 L gu gs (V ++ (((if stepV 0 H i g = true then (tre 0 gr (pushV H i g.1)).map (fun q => i :: q) else []) ++ lpF (fun i => if stepV 0 H i g = true then (tre 0 gr (pushV H i g.1)).map (fun q => i :: q) else []) (i + 1) m).map (fun q => p ++ q))) ∧ PW w2 p ∧ WFr w w2 := by
          intro hs
          have e : (if stepV 0 H i g = true then (tre 0 gr (pushV H i g.1)).map (fun q => i :: q) else []) = [] := if_neg (by rw [hs]; decide)
          rw [e, List.nil_append]
          exact ihm (i + 1) F V w (by omega) (by omega) hG hH hC hA hP (by omega)
        have g85 : roomV H i g = true → ∃ w2, ff_wy_goOn_85 (ff_wy_goOn k) (ff_wy_goOn_42_f (ff_wy_goOn k) F) (u32 p.length) (u32 (usedN p)) (u32 i) w = some (.null, w2) ∧ CH w2 H ∧ AccD w2 (V ++ (((if stepV 0 H i g = true then (tre 0 gr (pushV H i g.1)).map (fun q => i :: q) else []) ++ lpF (fun i => if stepV 0 H i g = true then (tre 0 gr (pushV H i g.1)).map (fun q => i :: q) else []) (i + 1) m).map (fun q => p ++ q))) ∧ AccR w2 L gu gs (V ++ (((if stepV 0 H i g = true then (tre 0 gr (pushV H i g.1)).map (fun q => i :: q) else []) ++ lpF (fun i => if stepV 0 H i g = true then (tre 0 gr (pushV H i g.1)).map (fun q => i :: q) else []) (i + 1) m).map (fun q => p ++ q))) ∧ PW w2 p ∧ WFr w w2 := by
          intro hroom
          unfold ff_wy_goOn_85
          simp (disch := omega) only [u32_lit, sm_rd_u, sm_bind_some, gw1, cn, sm_cI_some, u32_bool_eq0, u32_add, sm_wr_u, u32_or_bit hu (show i < 6 by omega)]
          cases hcv : canV H i g.1 with
          | false =>
            rw [if_pos rfl]
            exact skip (by rw [stepV_0, hroom, hcv]; rfl)
          | true =>
            rw [if_neg (by decide)]
            have hs : stepV 0 H i g = true := by rw [stepV_0, hroom, hcv]; rfl
            rw [if_pos hs] at hV
            rw [if_pos hs]
            obtain ⟨q1, q2⟩ := canV_free hcv
            have hF4 : WFr w (sm_wI w 52 p.length (u32 i)) := WFr.w (by omega)
            have hH4 : CH (sm_wI w 52 p.length (u32 i)) H := CH_fr (fun a h1 h2 => by simp (disch := omega) only [sm_wI_ne, sm_wI_nj, sm_wI_eq, sm_wA_ne, sm_wA_eq]) hH
            have hP4 : PW (sm_wI w 52 p.length (u32 i)) (p ++ [i]) := by
              intro j x hx
              by_cases hj : j < p.length
              · rw [List.getElem?_append_left hj] at hx
                rw [sm_wI_nj (by omega)]
                exact hP j x hx
              · rw [List.getElem?_append_right (by omega)] at hx
                have hj0 : j - p.length = 0 := by
                  have := (List.getElem?_eq_some_iff.mp hx).1
                  simp at this
                  omega
                rw [hj0] at hx
                cases hx
                rw [show j = p.length by omega, sm_wI_eq]
            have hx5 : (sm_wI w 52 p.length (u32 i)).1 50 p.length = u32 g.1 := by rw [sm_wI_ne (by decide)]; exact gw1
            have hC4 : AccD (sm_wI w 52 p.length (u32 i)) V := hC.fr (by simp (disch := omega) only [sm_wI_ne, sm_wI_nj, sm_wI_eq, sm_wA_ne, sm_wA_eq]) (by simp (disch := omega) only [sm_wI_ne, sm_wI_nj, sm_wI_eq, sm_wA_ne, sm_wA_eq])
            have hR4 : AccR (sm_wI w 52 p.length (u32 i)) L gu gs V := hA.fr (by simp (disch := omega) only [sm_wI_ne, sm_wI_nj, sm_wI_eq, sm_wA_ne, sm_wA_eq]) (by simp (disch := omega) only [sm_wI_ne, sm_wI_nj, sm_wI_eq, sm_wA_ne, sm_wA_eq])
            rw [hx5]
            generalize sm_wI w 52 p.length (u32 i) = w4 at hF4 hH4 hP4 hC4 hR4
            obtain ⟨w7, a1, a2, a3⟩ := hs_push (x := g.1) hH4 hok hi q1 q2
            have a3' := WFr.s a3
            have hlp : (p ++ [i]).length = p.length + 1 := by rw [List.length_append]; rfl
            obtain ⟨w9, b1, b2, b3, b4, b5, b6⟩ := ih k (p ++ [i]) (pushV H i g.1) V w7 (by omega) (by rw [hlp]; exact d2) (by rw [hlp]; omega) (hG.w (hF4.trans a3')) a2 (pushV_ok hok hi gw3 q1) (hC4.fr (a3.1.1 53 (by omega)) (a3.1.1 54 (by omega))) (hR4.fr (a3.1.1 49 (by omega)) (a3.1.1 55 (by omega))) (hP4.fr (a3.1.1 52 (by omega))) (fun j hj => by
              rcases List.mem_append.mp hj with hj | hj
              · exact hp6 j hj
              · have : j = i := by simpa using hj
                omega) (by rw [List.length_map] at hV; omega)
            rw [hlp, usedN_snoc] at b1
            obtain ⟨w11, c1, c2, c3⟩ := hs_pop b2 hok hi q1 q2
            have c3' := WFr.s c3
            have hmm : (tre 0 gr (pushV H i g.1)).map (fun q => (p ++ [i]) ++ q) = ((tre 0 gr (pushV H i g.1)).map (fun q => i :: q)).map (fun q => p ++ q) := by
              rw [List.map_map]
              refine List.map_congr_left (fun q _ => ?_)
              show (p ++ [i]) ++ q = p ++ (i :: q)
              rw [List.append_assoc]
              rfl
            rw [hmm] at b3 b4
            have hP9 : PW w11 p := by
              intro j x hx
              rw [c3.1.1 52 (by omega)]
              refine b5 j x ?_
              have := (List.getElem?_eq_some_iff.mp hx).1
              rw [List.getElem?_append_left this]
              exact hx
            obtain ⟨w12, e1, e2, e3, e4, e5, e6⟩ := ihm (i + 1) F (V ++ ((tre 0 gr (pushV H i g.1)).map (fun q => i :: q)).map (fun q => p ++ q)) w11 (by omega) (by omega) (hG.w (((hF4.trans a3').trans b6).trans c3')) c2 (b3.fr (c3.1.1 53 (by omega)) (c3.1.1 54 (by omega))) (b4.fr (c3.1.1 49 (by omega)) (c3.1.1 55 (by omega))) hP9 (by rw [List.length_append, List.length_map]; omega)
            rw [List.map_append, ← List.append_assoc]
            refine ⟨w12, ?_, e2, e3, e4, e5, (((hF4.trans a3').trans b6).trans c3').trans e6⟩
            rw [a1]
            simp only [sm_cV_some]
            rw [b1]
            simp only [sm_cV_some]
            rw [c1]
            simp only [sm_cV_some]
            exact e1
        rw [ff_wy_goOn_42_f]
        unfold ff_wy_goOn_42_b
        simp (disch := omega) only [u32_lit, hH.1, u32_le, if_neg, sm_rd_u, sm_bind_some, gw2]
        have hri := (hok.2.1 i hi).2.2.1
        cases hg : g.2 with
        | none =>
          rw [if_pos (show oAns none = -u32 9 from rfl)]
          exact g85 (by unfold roomV; rw [hg])
        | some q =>
          have hq := gw4 q hg
          rw [if_neg (by show ¬ u32 q = -u32 9; rw [u32_eq_neg (by omega) (by decide) (by decide)]; exact id)]
          rw [(hH.2.1 i hi).2.2.1, show oAns (some q) = u32 q from rfl]
          simp (disch := omega) only [u32_eq]
          by_cases he : q = hR H i
          · rw [if_pos he]
            exact g85 (by unfold roomV; rw [hg]; simp [he])
          · rw [if_neg he, u32_add]
            exact skip (by
              rw [stepV_0]
              have : roomV H i g = false := by
                unfold roomV
                rw [hg]
                simp
                omega
              rw [this]
              rfl)
    rw [tre] at hV ⊢
    rw [List.length_cons] at hV
    obtain ⟨w2, a1, a2, a3, a4, a5, a6⟩ := loop (hN H) 0 1000000 (V ++ [p]) w1 (by omega) (by omega) (hG.w hF1) hH1 hn hR1 hP1 (by rw [List.length_append]; show V.length + 1 + _ < _; omega)
    rw [List.map_cons, List.append_nil]
    have e : V ++ (p :: (lpF (fun i => if stepV 0 H i g = true then (tre 0 gr (pushV H i g.1)).map (fun q => i :: q) else []) 0 (hN H)).map (fun q => p ++ q)) = (V ++ [p]) ++ (lpF (fun i => if stepV 0 H i g = true then (tre 0 gr (pushV H i g.1)).map (fun q => i :: q) else []) 0 (hN H)).map (fun q => p ++ q) := by
      rw [List.append_assoc]
      rfl
    rw [e]
    exact ⟨w2, by rw [pre]; exact a1, a2, a3, a4, a5, hF1.trans a6⟩

