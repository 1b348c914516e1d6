/-! pure: a turn of the law: by turns, how far off, a fourth, kinds -/
theorem row_ok {wb w : sm_Mem} {B : HBase} {ds : List Deed} {r n : Nat} (h : SI wb w B ds) (hr : r < 6) (hn : n ≤ 40) : ∃ w1, ff_ho_row (u32 r) (u32 n) w = some (.int (u32 n), w1) ∧ SI wb w1 B ds ∧ w1.1 (2 + 2 * r) 1 = u32 n ∧ (∀ a, a ≠ 2 + 2 * r → a ≠ 2 + 2 * r + 1 → w1.1 a = w.1 a) ∧ w1.2 = w.2 := by
  have hf : ∀ a, a ≠ 2 + 2 * r → a ≠ 2 + 2 * r + 1 → (sm_wA (sm_wI w (2 + 2 * r) 1 (u32 n)) (2 + 2 * r + 1) (fillF (w.1 (2 + 2 * r + 1)) 0 n (u32 0))).1 a = w.1 a := fun a h1 h2 => by rw [sm_wA_ne h2, sm_wI_ne h1]
  have hs : (sm_wA (sm_wI w (2 + 2 * r) 1 (u32 n)) (2 + 2 * r + 1) (fillF (w.1 (2 + 2 * r + 1)) 0 n (u32 0))).1 (2 + 2 * r) 1 = u32 n := by rw [sm_wA_ne (by omega), sm_wI_eq]
  exact ⟨_, ch_row hr hn, ⟨h.1.fr (fun a h1 h2 => hf a (by omega) (by omega)), h.2.1.b hr (fun a _ h1 h2 => hf a h1 h2) (Or.inr ⟨n, hn, hs⟩), h.2.2⟩, hs, hf, rfl⟩
theorem lay_ok {wb w : sm_Mem} {B : HBase} {ds : List Deed} {r n i : Nat} (v : Int32) (h : SI wb w B ds) (hr : r < 6) (hn : n ≤ 40) (hc : w.1 (2 + 2 * r) 1 = u32 n) (hi : i < n) : ∃ w1, ff_ho_lay (u32 r) (u32 i) v w = some (.int (u32 1), w1) ∧ SI wb w1 B ds ∧ w1.1 (2 + 2 * r) = w.1 (2 + 2 * r) ∧ w1.1 (2 + 2 * r + 1) i = v ∧ (∀ j, j ≠ i → w1.1 (2 + 2 * r + 1) j = w.1 (2 + 2 * r + 1) j) ∧ (∀ a, a ≠ 60 → a ≠ 2 + 2 * r + 1 → w1.1 a = w.1 a) ∧ w1.2 = w.2 := by
  have hf : ∀ a, a ≠ 60 → a ≠ 2 + 2 * r + 1 → (sm_wI (sm_wI w 60 0 (w.1 (2 + 2 * r + 1) i)) (2 + 2 * r + 1) i v).1 a = w.1 a := fun a h1 h2 => by rw [sm_wI_ne h2, sm_wI_ne h1]
  have h0 := hf (2 + 2 * r) (by omega) (by omega)
  refine ⟨_, ch_lay hr hn hc hi, ⟨h.1.fr (fun a h1 h2 => hf a (by omega) (by omega)), h.2.1.b hr (fun a ha h1 h2 => hf a (by omega) h2) (Or.inr ⟨n, hn, by rw [h0]; exact hc⟩), h.2.2⟩, h0, sm_wI_eq, fun j hj => ?_, hf, rfl⟩
  rw [sm_wI_nj hj, sm_wI_ne (by omega)]
theorem L2273 {E : Nat × (Nat → Int32)} {S : Int32 → Int32 → Int64 → Int32 → sm_Mem → sm_R} {wb : sm_Mem} {B : HBase} {ds : List Deed} {T : Nat} {a7 : Int64} {x : Int32} {w : sm_Mem} {ws : List Nat} (hS : TC S wb B ds T a7) (h : SI wb w B ds) (hr : RowW w 0 ws) (hl : ws.length ≤ 4) : OkR (ff_la_law_2273 E S (u32 B.1) (u32 (2 ^ B.1 - 1)) a7 (u32 T) x (u32 ds.length) (u32 (hH (playV B ds).1)) (u32 (hO (playV B ds).1).length) (bre B ds) (u32 (nxt (playV B ds).1)) (u32 ws.length) (u64 (wys 0 (glOf ws) (playV B ds).1).length) (u32 (farL 0 (glOf ws) (playV B ds).1 0 ws.length)) w) := by
  have h0 := h.2.2
  obtain ⟨w1, a1, a2, a3, -⟩ := ch_struck (t := 0) h.1 h0 (by decide)
  have s1 := h.a a2 a3
  have r1 := hr.a (by decide) a3
  obtain ⟨w2, b1, b2, b3, -⟩ := ch_struck (t := 2) s1.1 h0 (by decide)
  have s2 := s1.a b2 b3
  have r2 := r1.a (by decide) b3
  obtain ⟨w3, c1, c2, c3, -⟩ := ch_struck (t := 3) s2.1 h0 (by decide)
  have s3 := s2.a c2 c3
  have r3 := r2.a (by decide) c3
  unfold ff_la_law_2273
  simp only [u32_lit]
  rw [a1, cI_, if_pos (show outV 0 (playV B ds).1 = -u32 9 from rfl), b1, cI_]
  by_cases e : outV 2 (playV B ds).1 = u32 0
  · rw [if_pos e, c1, cI_, if_pos (out_win e)]
    exact L2301 hS s3 r3 hl
  · rw [if_neg e]
    exact L2301 hS s2 r2 hl
theorem L2222 {E : Nat × (Nat → Int32)} {S : Int32 → Int32 → Int64 → Int32 → sm_Mem → sm_R} {wb : sm_Mem} {B : HBase} {ds : List Deed} {T : Nat} {a7 : Int64} {x : Int32} {w : sm_Mem} {ws : List Nat} (hS : TC S wb B ds T a7) (h : SI wb w B ds) (hr : RowW w 0 ws) (hl : ws.length ≤ 4) {b0 b1 : Int32} (hb : b0 ≤ b1) : OkR (ff_la_law_2222 E S (u32 B.1) (u32 (2 ^ B.1 - 1)) a7 (u32 T) x (u32 ds.length) (u32 (hH (playV B ds).1)) (u32 (hO (playV B ds).1).length) (bre B ds) (u32 (nxt (playV B ds).1)) (u32 ws.length) (u64 (wys 0 (glOf ws) (playV B ds).1).length) (u32 (farL 0 (glOf ws) (playV B ds).1 0 ws.length)) b0 b1 w) := by
  have h0 := h.2.2
  obtain ⟨-, hx2, -⟩ := nxt_spec (playV B ds).1
  obtain ⟨w1, a1, a2, a3, -⟩ := ch_struck (t := 1) h.1 h0 (by decide)
  have s1 := h.a a2 a3
  have r1 := hr.a (by decide) a3
  obtain ⟨w2, b1', b2, b3, -⟩ := ch_struck (t := 2) s1.1 h0 (by decide)
  have s2 := s1.a b2 b3
  have r2 := r1.a (by decide) b3
  obtain ⟨w3, c1, c2, c3, -⟩ := ch_struck (t := 3) s2.1 h0 (by decide)
  have s3 := s2.a c2 c3
  have r3 := r2.a (by decide) c3
  unfold ff_la_law_2222
  simp only [u32_lit]
  rw [if_pos hb, a1, cI_]
  by_cases e : nxt (playV B ds).1 = 0
  · have eu : u32 (nxt (playV B ds).1) = u32 0 := by rw [e]
    obtain ⟨e1, e2, e3⟩ := out_dumb e
    rw [if_pos eu]
    unfold ff_la_law_2247
    simp only [u32_lit]
    rw [if_pos e1, if_pos eu, b1', cI_, if_pos e2, c1, cI_, if_pos e3]
    exact L2273 hS s3 r3 hl
  · have eu : ¬ u32 (nxt (playV B ds).1) = u32 0 := by rw [u32_eq (by omega) (by omega)]; exact e
    rw [if_neg eu]
    unfold ff_la_law_2247
    simp only [u32_lit]
    rw [if_pos (out_one e), if_neg eu]
    exact L2273 hS s1 r1 hl
theorem L2200 {E : Nat × (Nat → Int32)} {S : Int32 → Int32 → Int64 → Int32 → sm_Mem → sm_R} {wb : sm_Mem} {B : HBase} {ds : List Deed} {T : Nat} {a7 : Int64} {x : Int32} {w : sm_Mem} {ws : List Nat} (hS : TC S wb B ds T a7) (h : SI wb w B ds) (hr : RowW w 0 ws) (hl : ws.length ≤ 4) {b0 b1 : Nat} (hb : b1 ≤ b0) (hb2 : b0 < 1000) : OkR (ff_la_law_2200 E S (u32 B.1) (u32 (2 ^ B.1 - 1)) a7 (u32 T) x (u32 ds.length) (u32 (hH (playV B ds).1)) (u32 (hO (playV B ds).1).length) (bre B ds) (u32 (nxt (playV B ds).1)) (u32 ws.length) (u64 (wys 0 (glOf ws) (playV B ds).1).length) (u32 (farL 0 (glOf ws) (playV B ds).1 0 ws.length)) (u32 b0) (u32 b1) w) := by
  have h0 := h.2.2
  have l8 := h.1.n.1.2.2.2.1
  obtain ⟨w1, a1, a2, a3, -⟩ := ch_off h.1 h0 (show 0 < 6 by decide) hr (by omega)
  have s1 := h.a a2 a3
  have r1 := hr.a (by decide) a3
  have hd := (dM_bounds (o := fun k => u32 (ordAt (hO (playV B ds).1) k).1) (g := fun j => w.1 (2 + 2 * 0 + 1) j) (hO (playV B ds).1).length ws.length).1
  generalize dM (fun k => u32 (ordAt (hO (playV B ds).1) k).1) (fun j => w.1 (2 + 2 * 0 + 1) j) (hO (playV B ds).1).length ws.length = d at a1 hd
  unfold ff_la_law_2200
  simp only [u32_lit]
  rw [if_neg (by rw [u32_lt (by omega) (by omega)]; omega), a1, cI_]
  by_cases e : ws.length ≤ (hO (playV B ds).1).length
  · rw [if_pos (by rw [u32_le (by omega) (by omega)]; exact e)]
    exact L2222 hS s1 r1 hl (by rw [u32_le (by omega) (by omega)]; omega)
  · rw [if_neg (by rw [u32_le (by omega) (by omega)]; exact e)]
    exact L2222 hS s1 r1 hl (by rw [u32_le (by omega) (by omega)]; omega)
theorem L2135 {E : Nat × (Nat → Int32)} {S : Int32 → Int32 → Int64 → Int32 → sm_Mem → sm_R} {wb : sm_Mem} {B : HBase} {ds : List Deed} {T : Nat} {a7 : Int64} {x : Int32} {ws : List Nat} (hS : TC S wb B ds T a7) (hl : ws.length ≤ 4) : ∀ (m k F : Nat) (w : sm_Mem), k + m = (hO (playV B ds).1).length → m < F → SI wb w B ds → RowW w 0 ws → w.1 4 1 = u32 (hO (playV B ds).1).length → (∀ j, j < k → w.1 5 j = u32 (ordAt (hO (playV B ds).1) j).1) → OkR (ff_la_law_2135_f E S F (u32 B.1) (u32 (2 ^ B.1 - 1)) a7 (u32 T) x (u32 ds.length) (u32 (hH (playV B ds).1)) (u32 (hO (playV B ds).1).length) (bre B ds) (u32 (nxt (playV B ds).1)) (u32 ws.length) (u64 (wys 0 (glOf ws) (playV B ds).1).length) (u32 (farL 0 (glOf ws) (playV B ds).1 0 ws.length)) (u32 k) w) := by
  intro m
  induction m with
  | zero =>
    intro k F w hk hF h hr h4 h5
    obtain ⟨F, rfl⟩ : ∃ G, F = G + 1 := ⟨F - 1, by omega⟩
    have h0 := h.2.2
    have hok := h.1.n.1
    have l8 := hok.2.2.2.1
    have hr1 : RowW w 1 ((List.range (hO (playV B ds).1).length).map (fun j => (ordAt (hO (playV B ds).1) j).1)) := by
      refine ⟨by rw [List.length_map, List.length_range]; exact h4, fun j y hj => ?_⟩
      rw [List.getElem?_map] at hj
      have hjl : j < (hO (playV B ds).1).length := by
        rcases Nat.lt_or_ge j (hO (playV B ds).1).length with q | q
        · exact q
        · rw [List.getElem?_eq_none (by rw [List.length_range]; exact q)] at hj
          cases hj
      rw [List.getElem?_range hjl] at hj
      cases hj
      exact ⟨h5 j (by omega), (ordAt_ok hok hjl).1⟩
    obtain ⟨w1, a1, a2, a3, -⟩ := ch_off h.1 h0 (show 1 < 6 by decide) hr1 (by rw [List.length_map, List.length_range]; exact l8)
    have s1 := h.a a2 a3
    have r1 := hr.a (by decide) a3
    rw [List.length_map, List.length_range, dM_self (o := fun k => u32 (ordAt (hO (playV B ds).1) k).1) (g := fun j => w.1 (2 + 2 * 1 + 1) j) _ (fun j hj => (h5 j (by omega)).symm)] at a1
    obtain ⟨w2, b1, b2, b3, -⟩ := ch_off s1.1 h0 (show 0 < 6 by decide) r1 (by omega)
    have s2 := s1.a b2 b3
    have r2 := r1.a (by decide) b3
    have hd := dM_bounds (o := fun k => u32 (ordAt (hO (playV B ds).1) k).1) (g := fun j => w1.1 (2 + 2 * 0 + 1) j) (hO (playV B ds).1).length ws.length
    generalize dM (fun k => u32 (ordAt (hO (playV B ds).1) k).1) (fun j => w1.1 (2 + 2 * 0 + 1) j) (hO (playV B ds).1).length ws.length = d at b1 hd
    rw [ff_la_law_2135_f]
    unfold ff_la_law_2135_b
    simp only [u32_lit]
    rw [if_pos (by rw [u32_le (by omega) (by omega)]; omega), a1, cI_, if_pos rfl, b1, cI_]
    by_cases e : ws.length ≤ (hO (playV B ds).1).length
    · rw [if_pos (by rw [u32_le (by omega) (by omega)]; exact e), u32_sub e]
      exact L2200 hS s2 r2 hl (by omega) (by omega)
    · rw [if_neg (by rw [u32_le (by omega) (by omega)]; exact e), u32_sub (by omega)]
      exact L2200 hS s2 r2 hl (by omega) (by omega)
  | succ m ih =>
    intro k F w hk hF h hr h4 h5
    obtain ⟨F, rfl⟩ : ∃ G, F = G + 1 := ⟨F - 1, by omega⟩
    have l8 := h.1.n.1.2.2.2.1
    have e1 := ch_said h.1 (show k < (hO (playV B ds).1).length by omega)
    have s1 : SI wb (sm_wI w 60 0 (u32 (ordAt (hO (playV B ds).1) k).2)) B ds := h.a (h.1.told (by omega)) AFr.told
    have r1 : RowW (sm_wI w 60 0 (u32 (ordAt (hO (playV B ds).1) k).2)) 0 ws := hr.a (by decide) AFr.told
    obtain ⟨w1, a1, a2, a3, a4, a5, a6, -⟩ := lay_ok (r := 1) (n := (hO (playV B ds).1).length) (i := k) (u32 (ordAt (hO (playV B ds).1) k).1) s1 (by decide) (by omega) (by rw [sm_wI_ne (by decide)]; exact h4) (by omega)
    rw [ff_la_law_2135_f]
    unfold ff_la_law_2135_b
    simp only [u32_lit]
    rw [if_neg (by rw [u32_le (by omega) (by omega)]; omega), e1, cI_, a1, cI_, if_pos rfl, u32_add]
    refine ih (k + 1) F w1 (by omega) (by omega) a2 (r1.fr (a6 _ (by decide) (by decide)) (a6 _ (by decide) (by decide))) ?_ (fun j hj => ?_)
    · rw [show w1.1 4 = _ from a3, sm_wI_ne (by decide)]
      exact h4
    · by_cases e : j = k
      · rw [e]; exact a4
      · rw [show w1.1 5 j = _ from a5 j e, sm_wI_ne (by decide)]
        exact h5 j (by omega)
theorem L2118 {E : Nat × (Nat → Int32)} {S : Int32 → Int32 → Int64 → Int32 → sm_Mem → sm_R} {wb : sm_Mem} {B : HBase} {ds : List Deed} {T : Nat} {a7 : Int64} {x : Int32} {w : sm_Mem} {ws : List Nat} (hS : TC S wb B ds T a7) (h : SI wb w B ds) (hr : RowW w 0 ws) (hl : ws.length ≤ 4) : OkR (ff_la_law_2118 E S (u32 B.1) (u32 (2 ^ B.1 - 1)) a7 (u32 T) x (u32 ds.length) (u32 (hH (playV B ds).1)) (u32 (hO (playV B ds).1).length) (bre B ds) (u32 (nxt (playV B ds).1)) (u32 ws.length) (u64 (wys 0 (glOf ws) (playV B ds).1).length) (u32 (farL 0 (glOf ws) (playV B ds).1 0 ws.length)) w) := by
  have l8 := h.1.n.1.2.2.2.1
  obtain ⟨w1, a1, a2, a3, a4, -⟩ := row_ok (r := 1) (n := (hO (playV B ds).1).length) h (by decide) (by omega)
  unfold ff_la_law_2118 ff_la_law_2135
  simp only [u32_lit]
  rw [a1, cI_, if_pos rfl, sm_N_eq]
  exact L2135 hS hl (hO (playV B ds).1).length 0 1000000 w1 (by omega) (by omega) a2 (hr.fr (a4 _ (by decide) (by decide)) (a4 _ (by decide) (by decide))) a3 (fun j hj => absurd hj (Nat.not_lt_zero _))
theorem L2070 {E : Nat × (Nat → Int32)} {S : Int32 → Int32 → Int64 → Int32 → sm_Mem → sm_R} {wb : sm_Mem} {B : HBase} {ds : List Deed} {T : Nat} {a7 : Int64} {x : Int32} {w : sm_Mem} {ws : List Nat} (hS : TC S wb B ds T a7) (h : SI wb w B ds) (hr : RowW w 0 ws) (hl : ws.length ≤ 4) {fo : Int32} (h6 : B.1 = 6 → fo = -u32 9) (hf : B.1 < 6 → (fo = u32 0 ↔ ¬ (wys 0 (glOf ws) (playV B ds).1).length = 0)) : OkR (ff_la_law_2070 E S (u32 B.1) (u32 (2 ^ B.1 - 1)) a7 (u32 T) x (u32 ds.length) (u32 (hH (playV B ds).1)) (u32 (hO (playV B ds).1).length) (bre B ds) (u32 (nxt (playV B ds).1)) (u32 ws.length) (u64 (wys 0 (glOf ws) (playV B ds).1).length) (u32 (farL 0 (glOf ws) (playV B ds).1 0 ws.length)) fo w) := by
  obtain ⟨hok, hn, -, n6⟩ := h.1.n
  have hsm := wys_small (sil := 0) (gs := glOf ws) (H := (playV B ds).1) hok.1 (by rw [glOf_len]; omega)
  have l2102 : OkR (ff_la_law_2102 E S (u32 B.1) (u32 (2 ^ B.1 - 1)) a7 (u32 T) x (u32 ds.length) (u32 (hH (playV B ds).1)) (u32 (hO (playV B ds).1).length) (bre B ds) (u32 (nxt (playV B ds).1)) (u32 ws.length) (u64 (wys 0 (glOf ws) (playV B ds).1).length) (u32 (farL 0 (glOf ws) (playV B ds).1 0 ws.length)) fo w) := by
    unfold ff_la_law_2102
    simp only [u32_lit]
    by_cases e : B.1 = 6
    · rw [if_pos (by rw [e]), if_pos (h6 e)]
      exact L2118 hS h hr hl
    · rw [if_neg (by rw [u32_eq (by omega) (by omega)]; exact e)]
      exact L2118 hS h hr hl
  unfold ff_la_law_2070
  simp only [u32_lit]
  by_cases e : 6 ≤ B.1
  · rw [if_pos (by rw [u32_le (by omega) (by omega)]; exact e)]
    exact l2102
  · rw [if_neg (by rw [u32_le (by omega) (by omega)]; exact e)]
    have hf := hf (by omega)
    unfold ff_la_law_2087 ff_la_law_2099
    simp only [u32_lit, u64_lit]
    by_cases z : (wys 0 (glOf ws) (playV B ds).1).length = 0
    · rw [if_neg (fun q => hf.mp q z), if_pos (by rw [c64_le (by omega) (by omega)]; omega), if_pos trivial]
      exact l2102
    · rw [if_pos (hf.mpr z), if_neg (by rw [c64_le (by omega) (by omega)]; omega), if_pos trivial]
      exact l2102
theorem L2004 {E : Nat × (Nat → Int32)} {S : Int32 → Int32 → Int64 → Int32 → sm_Mem → sm_R} {wb : sm_Mem} {B : HBase} {ds : List Deed} {T : Nat} {a7 : Int64} {x : Int32} {w : sm_Mem} {ws : List Nat} (hS : TC S wb B ds T a7) (h : SI wb w B ds) (hr : RowW w 0 ws) (hl : ws.length ≤ 4) : OkR (ff_la_law_2004 E S (u32 B.1) (u32 (2 ^ B.1 - 1)) a7 (u32 T) x (u32 ds.length) (u32 (hH (playV B ds).1)) (u32 (hO (playV B ds).1).length) (bre B ds) (u32 (nxt (playV B ds).1)) (u32 ws.length) (u64 (wys 0 (glOf ws) (playV B ds).1).length) (u32 (farL 0 (glOf ws) (playV B ds).1 0 ws.length)) w) := by
  obtain ⟨hok, hn, -, n6⟩ := h.1.n
  have h0 := h.2.2
  obtain ⟨q, hq, eq⟩ := la_low (x >>> (u32 10 &&& u32 31)) (show 0 < 6 by decide) (by decide)
  have hw6 : ∀ y, y ∈ ws → y < 6 := fun y hy => by
    obtain ⟨j, hj⟩ := List.getElem?_of_mem hy
    exact (hr.2 j y hj).2
  unfold ff_la_law_2004
  simp only [u32_lit]
  rw [eq, cI_]
  by_cases b6 : B.1 = 6
  · rw [ch_fourth_6 h.1 b6 (show 0 < 6 by decide) hq hr (by omega), cI_, as_eq, cI_, if_neg (by decide), if_neg (by decide), if_pos (by decide)]
    exact L2070 hS h hr hl (fun _ => rfl) (fun e => absurd e (by omega))
  · obtain ⟨w1, a1, a2, a3, a4⟩ := ch_fourth h.1 h0 (show B.1 < 6 by omega) (show 0 < 6 by decide) hq hr (by omega)
    have s1 := h.a a1 a2
    have r1 := hr.a (by decide) a2
    have hz := least_zero (q := q) hok hw6
    cases hlm : leastM (hasB (glOf ws) (playV B ds).1 q) 64 with
    | none =>
      rw [hlm] at a4 hz
      rw [a4, cI_, as_eq, cI_, if_neg (by decide), if_neg (by decide), if_pos (by decide)]
      exact L2070 hS s1 r1 hl (fun _ => rfl) (fun _ => ⟨fun e => absurd e (by decide), fun e => absurd hz e⟩)
    | some b =>
      rw [hlm] at a4 hz
      obtain ⟨b1, b2⟩ := a4
      obtain ⟨z1, z2⟩ := hz
      have p6 := pop_6 b
      rw [b1, cI_, as_eq, cI_, b2, if_neg (by rw [u32_lt_neg (by omega) (by decide) (by decide)]; exact id), if_neg (by rw [u32_lt (by omega) (by omega)]; omega), if_neg (by rw [u32_le_neg (by omega) (by decide) (by decide)]; exact id), if_neg (by rw [u0_lt (by omega)]; exact id), if_neg (by rw [u32_eq (by omega) (by omega)]; exact b6), la_bits z1, cI_, if_pos rfl]
      exact L2070 hS s1 r1 hl (fun e => absurd e b6) (fun _ => by
        rw [u32_eq (by omega) (by omega)]
        exact z2)
theorem can_able {H : HV} {i x : Nat} (h : canV H i x = true) : ableV (hK H i) (hW H i) (hH H) (lastW (hO H)) x = true := by
  unfold canV at h
  rw [Bool.and_eq_true] at h
  exact h.2
theorem L1866 {E : Nat × (Nat → Int32)} {S : Int32 → Int32 → Int64 → Int32 → sm_Mem → sm_R} {wb : sm_Mem} {B : HBase} {ds : List Deed} {T : Nat} {a7 : Int64} {x : Int32} {w : sm_Mem} {ws : List Nat} (hS : TC S wb B ds T a7) (h : SI wb w B ds) (hr : RowW w 0 ws) (hl : ws.length ≤ 4) {one v : Nat} (ho : one < B.1) (hv : v < 6) (k1 : w.1 12 1 = u32 3) (k2 : w.1 13 0 = oAns (lastW (hO (playV B ds).1))) (k3 : w.1 13 1 = u32 v) : OkR (ff_la_law_1866 E S (u32 B.1) (u32 (2 ^ B.1 - 1)) a7 (u32 T) x (u32 ds.length) (u32 (hH (playV B ds).1)) (u32 (hO (playV B ds).1).length) (bre B ds) (u32 (nxt (playV B ds).1)) (u32 ws.length) (u64 (wys 0 (glOf ws) (playV B ds).1).length) (u32 (farL 0 (glOf ws) (playV B ds).1 0 ws.length)) (u32 one) (u32 v) (u32 5) (u32 2) (u32 (ableV (hK (playV B ds).1 one) (hW (playV B ds).1 one) (hH (playV B ds).1) (lastW (hO (playV B ds).1)) v).toNat) w) := by
  obtain ⟨hok, hn, -, n6⟩ := h.1.n
  have h0 := h.2.2
  have hone : one < hN (playV B ds).1 := by omega
  have hkd := (hok.2.1 one hone).1
  obtain ⟨w1, a1, a2, a3, a4, a5, a6, -⟩ := lay_ok (r := 5) (n := 3) (i := 2) (u32 (ableV (hK (playV B ds).1 one) (hW (playV B ds).1 one) (hH (playV B ds).1) (lastW (hO (playV B ds).1)) v).toNat) h (by decide) (by decide) k1 (by decide)
  have r1 : RowW w1 0 ws := hr.fr (a6 _ (by decide) (by decide)) (a6 _ (by decide) (by decide))
  generalize hbt : ableV (hK (playV B ds).1 one) (hW (playV B ds).1 one) (hH (playV B ds).1) (lastW (hO (playV B ds).1)) v = bt at a1 a4
  have c1 : w1.1 (2 + 2 * 5) 1 = u32 3 := by rw [a3]; exact k1
  have c2 : w1.1 (2 + 2 * 5 + 1) 0 = oAns (lastW (hO (playV B ds).1)) := by rw [a5 0 (by decide)]; exact k2
  have c3 : w1.1 (2 + 2 * 5 + 1) 1 = u32 v := by rw [a5 1 (by decide)]; exact k3
  have own : kindV (playV B ds).1 one [(lastW (hO (playV B ds).1), v, bt)] (hK (playV B ds).1 one) = true := by
    show (fitV (playV B ds).1 one (hK (playV B ds).1 one) (lastW (hO (playV B ds).1), v, bt) && true) = true
    unfold fitV
    dsimp only
    rw [hbt]
    simp
  have hkk := ch_kinds (t := (lastW (hO (playV B ds).1), v, bt)) a2.1 ho (show 5 < 6 by decide) c1 c2 hok.last c3 hv a4
  have hset : (setV (kindV (playV B ds).1 one [(lastW (hO (playV B ds).1), v, bt)])).testBit (hK (playV B ds).1 one) = true := by rw [set_bit hkd]; exact own
  have hne : ¬ setV (kindV (playV B ds).1 one [(lastW (hO (playV B ds).1), v, bt)]) = 0 := fun e => by
    rw [e, Nat.zero_testBit] at hset
    cases hset
  have htt := ch_test (t := (lastW (hO (playV B ds).1), v, bt)) a2.1 ho (show 5 < 6 by decide) c1 c2 hok.last c3 hv a4 hne
  have hs64 := set_lt (p := kindV (playV B ds).1 one [(lastW (hO (playV B ds).1), v, bt)])
  have hcnt := setV_cnt (kindV (playV B ds).1 one [(lastW (hO (playV B ds).1), v, bt)])
  obtain ⟨n, t1, t2, t3⟩ := test_spec (H := (playV B ds).1) (i := one) (s := kindV (playV B ds).1 one [(lastW (hO (playV B ds).1), v, bt)])
  have hpb := part_bounds (kindV (playV B ds).1 one [(lastW (hO (playV B ds).1), v, bt)]) (fun k => ableV k (hW (playV B ds).1 one) (hH (playV B ds).1) (lastN n) (n % 6))
  have hpart : partN (playV B ds).1 one (kindV (playV B ds).1 one [(lastW (hO (playV B ds).1), v, bt)]) n = partV (kindV (playV B ds).1 one [(lastW (hO (playV B ds).1), v, bt)]) (fun k => ableV k (hW (playV B ds).1 one) (hH (playV B ds).1) (lastN n) (n % 6)) := rfl
  rw [← hpart] at hpb
  rw [t2, t3] at htt
  have hc6 := cnt6_le (kindV (playV B ds).1 one [(lastW (hO (playV B ds).1), v, bt)])
  generalize partN (playV B ds).1 one (kindV (playV B ds).1 one [(lastW (hO (playV B ds).1), v, bt)]) n = pt at htt hpb
  rw [← hcnt] at hpb hc6
  generalize hks : setV (kindV (playV B ds).1 one [(lastW (hO (playV B ds).1), v, bt)]) = ks at *
  have s2 : SI wb (sm_wI w1 60 0 (u32 pt)) B ds := a2.a (a2.1.told (by omega)) AFr.told
  have r2 : RowW (sm_wI w1 60 0 (u32 pt)) 0 ws := r1.a (by decide) AFr.told
  have ht := la_told (x := 0) s2.1 ho (by decide)
  have s3 : SI wb (sm_wI (sm_wI w1 60 0 (u32 pt)) 60 0 (factV B (playV B ds).1 one 0)) B ds := s2.a (s2.1.told (by omega)) AFr.told
  have r3 : RowW (sm_wI (sm_wI w1 60 0 (u32 pt)) 60 0 (factV B (playV B ds).1 one 0)) 0 ws := r2.a (by decide) AFr.told
  have f0 : factV B (playV B ds).1 one 0 = u32 (hK (playV B ds).1 one) := rfl
  have m10 : u32 (10 * (n / 6) + n % 6) - u32 (10 * (n / 6) + n % 6) / u32 10 * u32 10 = u32 (n % 6) := by
    rw [u32_div (by omega) (by omega), u32_mul, u32_sub (by omega), show 10 * (n / 6) + n % 6 - (10 * (n / 6) + n % 6) / 10 * 10 = n % 6 by omega]
  have d2 : (u32 (popV ks) + u32 1) / u32 2 = u32 ((popV ks + 1) / 2) := by
    rw [u32_add, u32_div (by omega) (by omega)]
  unfold ff_la_law_1866
  simp only [u32_lit]
  rw [a1, cI_, if_pos rfl, hkk, cI_, htt, cI_, as_eq, cI_, sm_wI_eq, ht, cI_, f0, u32_bit hs64 hkd, hset, if_pos (show u32 true.toNat = u32 1 from rfl), if_neg (by rw [u32_lt (by omega) (by omega)]; omega), if_neg (by rw [u0_lt (by omega)]; exact id), if_neg (by rw [u32_lt (by omega) (by omega)]; omega), if_neg (by decide), m10, if_neg (by rw [u32_lt (by omega) (by omega)]; omega), la_bits hs64, cI_, if_neg (by decide), d2, if_neg (by rw [u32_lt (by omega) (by omega)]; omega), la_bits hs64, cI_, if_pos (by rw [u32_le (by omega) (by omega)]; omega)]
  rw [f0] at s3 r3
  rw [ch_what s3.1 ho, cI_, say_set, u32_bit set_lt hv, set_bit hv]
  cases hc : canV (playV B ds).1 one v with
  | false =>
    rw [if_neg (by decide)]
    exact L2004 hS s3 r3 hl
  | true =>
    rw [if_pos (show u32 true.toNat = u32 1 from rfl)]
    have hb1 : bt = true := by rw [← hbt]; exact can_able hc
    have c4 : (sm_wI (sm_wI w1 60 0 (u32 pt)) 60 0 (u32 (hK (playV B ds).1 one))).1 (2 + 2 * 5) 1 = u32 3 := by rw [sm_wI_ne (by decide), sm_wI_ne (by decide)]; exact c1
    rw [ch_at (r := 5) (n := 3) (i := 2) (by decide) (by decide) c4 (by decide), cI_, if_pos rfl, as_eq, cI_, sm_wI_eq, sm_wI_ne (by decide), sm_wI_ne (by decide), a4, hb1, if_pos (show u32 true.toNat = u32 1 from rfl)]
    exact L2004 hS (s3.a (s3.1.told (by omega)) AFr.told) (r3.a (by decide) AFr.told) hl
theorem L1814 {E : Nat × (Nat → Int32)} {S : Int32 → Int32 → Int64 → Int32 → sm_Mem → sm_R} {wb : sm_Mem} {B : HBase} {ds : List Deed} {T : Nat} {a7 : Int64} {x : Int32} {w : sm_Mem} {ws : List Nat} (hS : TC S wb B ds T a7) (h : SI wb w B ds) (hr : RowW w 0 ws) (hl : ws.length ≤ 4) {one v : Nat} (ho : one < B.1) (hv : v < 6) (k1 : w.1 12 1 = u32 3) : OkR (ff_la_law_1814 E S (u32 B.1) (u32 (2 ^ B.1 - 1)) a7 (u32 T) x (u32 ds.length) (u32 (hH (playV B ds).1)) (u32 (hO (playV B ds).1).length) (bre B ds) (u32 (nxt (playV B ds).1)) (oAns (lastW (hO (playV B ds).1))) (u32 ws.length) (u64 (wys 0 (glOf ws) (playV B ds).1).length) (u32 (farL 0 (glOf ws) (playV B ds).1 0 ws.length)) (u32 one) (u32 v) (u32 5) (u32 0) (oAns (lastW (hO (playV B ds).1))) w) := by
  obtain ⟨hok, hn, -, n6⟩ := h.1.n
  have hone : one < hN (playV B ds).1 := by omega
  obtain ⟨kb1, kb2⟩ := play_base (B := B) ds
  obtain ⟨w1, a1, a2, a3, a4, a5, a6, -⟩ := lay_ok (r := 5) (n := 3) (i := 0) (oAns (lastW (hO (playV B ds).1))) h (by decide) (by decide) k1 (by decide)
  have k1' : w1.1 12 1 = u32 3 := by rw [show w1.1 12 = w.1 12 from a3]; exact k1
  obtain ⟨w2, b1, b2, b3, b4, b5, b6, -⟩ := lay_ok (r := 5) (n := 3) (i := 1) (u32 v) a2 (by decide) (by decide) k1' (by decide)
  have r2 : RowW w2 0 ws := (hr.fr (a6 _ (by decide) (by decide)) (a6 _ (by decide) (by decide))).fr (b6 _ (by decide) (by decide)) (b6 _ (by decide) (by decide))
  obtain ⟨g1, g2, -⟩ := b2.2.1.1.2.1 one ho
  obtain ⟨o1, o2, -⟩ := hok.2.1 one hone
  have hab := la_able (w := w2) o1 o2 hv hok.2.2.1 hok.last
  have e1 : u32 (B.2.1 one) = u32 (hK (playV B ds).1 one) := by rw [kb1]
  have e2 : u32 (B.2.2.1 one) = u32 (hW (playV B ds).1 one) := by rw [kb2]
  have fin := L1866 (E := E) (x := x) hS b2 r2 hl ho hv (by rw [show w2.1 12 = w1.1 12 from b3]; exact k1') (by rw [show w2.1 13 0 = w1.1 13 0 from b5 0 (by decide)]; exact a4) b4
  unfold ff_la_law_1814
  simp only [u32_lit]
  rw [a1, cI_, if_pos rfl, b1, cI_, if_pos rfl, u32_add, sm_rd_u (by omega) (by omega), bs_, u32_add, sm_rd_u (by omega) (by omega), bs_, g1, g2, e1, e2, hab, cI_]
  cases hb : ableV (hK (playV B ds).1 one) (hW (playV B ds).1 one) (hH (playV B ds).1) (lastW (hO (playV B ds).1)) v with
  | false =>
    rw [hb] at fin
    rw [if_pos (show u32 false.toNat = u32 0 from rfl)]
    exact fin
  | true =>
    rw [hb] at fin
    rw [if_neg (by decide)]
    exact fin
theorem L1765 {E : Nat × (Nat → Int32)} {S : Int32 → Int32 → Int64 → Int32 → sm_Mem → sm_R} {wb : sm_Mem} {B : HBase} {ds : List Deed} {T : Nat} {a7 : Int64} {x : Int32} {w : sm_Mem} {ws : List Nat} (hS : TC S wb B ds T a7) (h : SI wb w B ds) (hr : RowW w 0 ws) (hl : ws.length ≤ 4) : OkR (ff_la_law_1765 E S (u32 B.1) (u32 (2 ^ B.1 - 1)) a7 (u32 T) x (u32 ds.length) (u32 (hH (playV B ds).1)) (u32 (hO (playV B ds).1).length) (bre B ds) (u32 (nxt (playV B ds).1)) (oAns (lastW (hO (playV B ds).1))) (u32 ws.length) (u64 (wys 0 (glOf ws) (playV B ds).1).length) (u32 (farL 0 (glOf ws) (playV B ds).1 0 ws.length)) w) := by
  obtain ⟨hok, hn, -, n6⟩ := h.1.n
  have h0 := h.2.2
  obtain ⟨one, ho, eo⟩ := la_low (x >>> (u32 20 &&& u32 31)) h0 (show B.1 < 2147483648 by omega)
  obtain ⟨v, hv, ev⟩ := la_low (x >>> (u32 7 &&& u32 31)) (show 0 < 6 by decide) (by decide)
  obtain ⟨w1, a1, a2, a3, a4, -⟩ := row_ok (r := 5) (n := 3) h (by decide) (by decide)
  have fin := L1814 (E := E) (x := x) hS a2 (hr.fr (a4 _ (by decide) (by decide)) (a4 _ (by decide) (by decide))) hl ho hv a3
  unfold ff_la_law_1765
  simp only [u32_lit]
  rw [eo, cI_, ev, cI_, a1, cI_, if_pos rfl]
  cases hlw : lastW (hO (playV B ds).1) with
  | none =>
    rw [hlw] at fin
    rw [if_neg (by decide)]
    exact fin
  | some l =>
    have l6 := hok.last l hlw
    rw [hlw] at fin
    rw [if_pos (show u32 0 ≤ oAns (some l) by
      show u32 0 ≤ u32 l
      rw [u0_le (by omega)]
      trivial)]
    exact fin
