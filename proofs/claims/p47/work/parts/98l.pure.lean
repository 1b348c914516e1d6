/-! pure: the law's turns; a house kept is gone on from; at last the house as it was; the pure statement -/
theorem mixR_gone {f g : Nat → Int32} {a : Int64} : mixR (-u32 1) f a = mixR (-u32 1) g a := rfl
theorem mixT_congr {z z1 : Nat → Int32} {g g1 : Nat → Nat → Int32} : ∀ (m r : Nat) (a : Int64), (∀ j, r ≤ j → j < r + m → ∀ b, mixR (z j) (g j) b = mixR (z1 j) (g1 j) b) → mixT z g r m a = mixT z1 g1 r m a
  | 0, _, _, _ => rfl
  | m + 1, r, a, h => by
    rw [mixT, mixT, h r (Nat.le_refl _) (by omega)]
    exact mixT_congr m (r + 1) _ (fun j h1 h2 => h j (by omega) (by omega))
/-- as the house was begun: no rows, none kept -/
def BG (wb : sm_Mem) : Prop := (∀ r, r < 6 → wb.1 (2 + 2 * r) 1 = -u32 9) ∧ ∀ k, k < 3 → wb.1 (24 + 4 * k) 3 = -u32 9
theorem cnt_same {w wb : sm_Mem} {B : HBase} (h : BG w) (hb : BG wb) (ht : ∀ a, 15 ≤ a → a < 23 → w.1 a = wb.1 a) : ∀ x, x < 11 → countV w B [] x = countV wb B [] x := by
  intro x hx
  rcases (show x = 0 ∨ x = 1 ∨ x = 2 ∨ x = 3 ∨ x = 4 ∨ x = 5 ∨ x = 6 ∨ x = 7 ∨ x = 8 ∨ x = 9 ∨ x = 10 by omega) with rfl | rfl | rfl | rfl | rfl | rfl | rfl | rfl | rfl | rfl | rfl
  · simp only [countV]
  · simp only [countV]
  · simp only [countV]
  · simp only [countV]
  · simp only [countV]
  · simp only [countV]
  · simp only [countV]
  · simp only [countV]
  · simp only [countV]
    exact cntF_congr (p := fun r => decide (u32 0 ≤ zOf (w.1 (2 + 2 * r) 1))) (q := fun r => decide (u32 0 ≤ zOf (wb.1 (2 + 2 * r) 1))) 6 0 _ (fun r _ hr => by
      show decide (u32 0 ≤ zOf (w.1 (2 + 2 * r) 1)) = decide (u32 0 ≤ zOf (wb.1 (2 + 2 * r) 1))
      rw [h.1 r (by omega), hb.1 r (by omega)])
  · simp only [countV]
    exact cntF_congr (p := fun r => decide (u32 0 ≤ zOf (w.1 (15 + 2 * r) 1))) (q := fun r => decide (u32 0 ≤ zOf (wb.1 (15 + 2 * r) 1))) 4 0 _ (fun r _ hr => by
      show decide (u32 0 ≤ zOf (w.1 (15 + 2 * r) 1)) = decide (u32 0 ≤ zOf (wb.1 (15 + 2 * r) 1))
      rw [ht (15 + 2 * r) (by omega) (by omega)])
  · simp only [countV]
    exact cntF_congr (p := fun k => decide (u32 0 ≤ zOf (w.1 (24 + 4 * k) 3))) (q := fun k => decide (u32 0 ≤ zOf (wb.1 (24 + 4 * k) 3))) 3 0 _ (fun k _ hk => by
      show decide (u32 0 ≤ zOf (w.1 (24 + 4 * k) 3)) = decide (u32 0 ≤ zOf (wb.1 (24 + 4 * k) 3))
      rw [h.2 k (by omega), hb.2 k (by omega)])
theorem kept_same {w wb : sm_Mem} (h : BG w) (hb : BG wb) (a : Int64) : mixL (fun k => zOf (w.1 (24 + 4 * k) 3)) 0 3 a = mixL (fun k => zOf (wb.1 (24 + 4 * k) 3)) 0 3 a := mixL_congr 3 0 _ (fun k _ hk => by
  show zOf (w.1 (24 + 4 * k) 3) = zOf (wb.1 (24 + 4 * k) 3)
  rw [h.2 k (by omega), hb.2 k (by omega)])
theorem rows_same {w wb : sm_Mem} (h : BG w) (hb : BG wb) (a : Int64) : mixT (fun r => zOf (w.1 (2 + 2 * r) 1)) (fun r => w.1 (2 + 2 * r + 1)) 0 6 a = mixT (fun r => zOf (wb.1 (2 + 2 * r) 1)) (fun r => wb.1 (2 + 2 * r + 1)) 0 6 a := mixT_congr 6 0 _ (fun r _ hr b => by
  show mixR (zOf (w.1 (2 + 2 * r) 1)) (w.1 (2 + 2 * r + 1)) b = mixR (zOf (wb.1 (2 + 2 * r) 1)) (wb.1 (2 + 2 * r + 1)) b
  rw [h.1 r (by omega), hb.1 r (by omega), zOf_9]
  exact mixR_gone)
theorem texts_same {w wb : sm_Mem} (ht : ∀ a, 15 ≤ a → a < 23 → w.1 a = wb.1 a) (a : Int64) : mixT (fun r => zOf (w.1 (15 + 2 * r) 1)) (fun r => w.1 (15 + 2 * r + 1)) 0 4 a = mixT (fun r => zOf (wb.1 (15 + 2 * r) 1)) (fun r => wb.1 (15 + 2 * r + 1)) 0 4 a := mixT_congr 4 0 _ (fun r _ hr b => by
  show mixR (zOf (w.1 (15 + 2 * r) 1)) (w.1 (15 + 2 * r + 1)) b = mixR (zOf (wb.1 (15 + 2 * r) 1)) (wb.1 (15 + 2 * r + 1)) b
  rw [ht (15 + 2 * r) (by omega) (by omega), ht (15 + 2 * r + 1) (by omega) (by omega)])
theorem dig_same {w wb : sm_Mem} {B : HBase} (h : BG w) (hb : BG wb) (ht : ∀ a, 15 ≤ a → a < 23 → w.1 a = wb.1 a) (s : Int64) : digV w B [] (mixL (countV w B []) 0 11 s) = digV wb B [] (mixL (countV wb B []) 0 11 s) := by
  have c := mixL_congr (f := countV w B []) (g := countV wb B []) 11 0 s (fun j _ hj => cnt_same h hb ht j (by omega))
  unfold digV
  rw [c, kept_same h hb, rows_same h hb, texts_same ht]
theorem BG.sc {w : sm_Mem} (h : BG w) (ht : ∀ r, r < 4 → SzOk w (15 + 2 * r) 60) : SC w := ⟨fun r hr => Or.inl (h.1 r hr), ht, fun k hk => Or.inl (h.2 k hk)⟩
theorem L2670 {E : Nat × (Nat → Int32)} {wb : sm_Mem} {it : List It} {a7 : Int64} (hb : BG wb) (h15 : wb.1 15 1 = u32 40) (hp : psr (wb.1 16) 40 0 [] = (none, it)) (hst : ∀ r, r < 4 → SzOk wb (15 + 2 * r) 60) (h6 : it.length ≤ 6) (ha : a7 = digV wb (baseOf it) [] (mixL (countV wb (baseOf it) []) 0 11 17)) : ∀ (m r F : Nat) (w : sm_Mem), r + m = 6 → m < F → (∀ q, q < r → w.1 (2 + 2 * q) 1 = -u32 9) → (∀ q, q < 6 → SzOk w (2 + 2 * q) 40) → (∀ a, 15 ≤ a → a < 23 → w.1 a = wb.1 a) → OkR (ff_la_law_2670_f E F (u32 it.length) a7 (u32 r) w) := by
  intro m
  induction m with
  | zero =>
    intro r F w hm hF h1 h2 h3
    obtain ⟨F, rfl⟩ : ∃ G, F = G + 1 := ⟨F - 1, by omega⟩
    obtain ⟨w1, a1, a2, a3, a4, -⟩ := ho_house_ok (w := w) (it := it) (by rw [h3 15 (by omega) (by omega)]; exact h15) (by rw [h3 16 (by omega) (by omega)]; exact hp)
    have hbg : BG w1 := ⟨fun q hq => by rw [a4 _ (by omega)]; exact h1 q (by omega), a3⟩
    have ht : ∀ a, 15 ≤ a → a < 23 → w1.1 a = wb.1 a := fun a c d => (a4 a (by omega)).trans (h3 a c d)
    have hsc : SC w1 := hbg.sc (fun r hr => by
      have := hst r hr
      unfold SzOk at this ⊢
      rw [ht _ (by omega) (by omega)]
      exact this)
    rw [ff_la_law_2670_f]
    unfold ff_la_law_2670_b
    simp only [u32_lit]
    rw [if_pos (by rw [u32_le (by omega) (by omega)]; omega), a1, cI_, if_pos rfl, ch_digest hsc a2, cL_, dig_same hbg hb ht, ← ha, if_pos (by rw [lg_eq0])]
    exact ⟨_, rfl⟩
  | succ m ih =>
    intro r F w hm hF h1 h2 h3
    obtain ⟨F, rfl⟩ : ∃ G, F = G + 1 := ⟨F - 1, by omega⟩
    have hr : r < 6 := by omega
    rw [ff_la_law_2670_f]
    unfold ff_la_law_2670_b
    simp only [u32_lit]
    rw [if_neg (by rw [u32_le (by omega) (by omega)]; omega)]
    rcases ch_tear hr (h2 r hr) with ⟨e1, e2⟩ | e2
    · rw [e2, cI_, if_neg (by decide), if_pos rfl, u32_add]
      refine ih (r + 1) F _ (by omega) (by omega) (fun q hq => ?_) (fun q hq => ?_) (fun a c d => ?_)
      · rw [wcRef_ne (by omega) (by omega)]
        by_cases e : q = r
        · rw [e]; exact e1
        · exact h1 q (by omega)
      · have := h2 q hq
        unfold SzOk at this ⊢
        rw [wcRef_ne (by omega) (by omega)]
        exact this
      · rw [wcRef_ne (by omega) (by omega)]
        exact h3 a c d
    · rw [e2, cI_, if_pos rfl, u32_add]
      refine ih (r + 1) F _ (by omega) (by omega) (fun q hq => ?_) (fun q hq => ?_) (fun a c d => ?_)
      · by_cases e : q = r
        · rw [e, sm_wI_eq]
        · rw [sm_wI_ne (by omega)]
          exact h1 q (by omega)
      · by_cases e : q = r
        · rw [e]
          exact Or.inl sm_wI_eq
        · have := h2 q hq
          unfold SzOk at this ⊢
          rw [sm_wI_ne (by omega)]
          exact this
      · rw [sm_wI_ne (by omega)]
        exact h3 a c d
theorem KpOk.fr {w w1 : sm_Mem} {k : Nat} (h : KpOk w k) (e : w1.1 (24 + 4 * k) = w.1 (24 + 4 * k)) : KpOk w1 k := by
  unfold KpOk at h ⊢
  rw [e]
  exact h
theorem L68x {E : Nat × (Nat → Int32)} {wb w : sm_Mem} {it : List It} {ds : List Deed} {a7 : Int64} {S : Int32 → Int32 → Int64 → Int32 → sm_Mem → sm_R} (hb : BG wb) (h15 : wb.1 15 1 = u32 40) (hp : psr (wb.1 16) 40 0 [] = (none, it)) (hst : ∀ r, r < 4 → SzOk wb (15 + 2 * r) 60) (h6 : it.length ≤ 6) (ha : a7 = digV wb (baseOf it) [] (mixL (countV wb (baseOf it) []) 0 11 17)) {a6 : Int32} (h : SI wb w (baseOf it) ds) : OkR (ff_la_law_68_b E S (u32 it.length) a6 a7 (u32 3) w) := by
  have hsc := h.2.1.2.1
  have hl := h.1.2.2.1
  have hv := h.1.2.2.2.1
  obtain ⟨w1, a1, a2, a3, -⟩ := ch_keep (k := 1) h.1 (by decide) (by have := h.2.2; omega)
  have a3 : ∀ a, (a < 28 ∨ 31 < a) → w1.1 a = w.1 a := a3
  have r1 : RHs w1 (baseOf it) ds := h.1.fr (fun a c d => a3 a (by omega))
  have sc1 : SC w1 := by
    obtain ⟨s1, s2, s3⟩ := hsc
    refine ⟨fun r hr => ?_, fun r hr => ?_, fun k hk => ?_⟩
    · have := s1 r hr
      unfold SzOk at this ⊢
      rw [a3 _ (by omega)]
      exact this
    · have := s2 r hr
      unfold SzOk at this ⊢
      rw [a3 _ (by omega)]
      exact this
    · rcases (show k = 0 ∨ k = 1 ∨ k = 2 by omega) with rfl | rfl | rfl
      · exact (s3 0 hk).fr (a3 24 (by omega))
      · exact Or.inr ⟨ds.length, hl, a2.1⟩
      · exact (s3 2 hk).fr (a3 32 (by omega))
  obtain ⟨w2, b1, b2, b3⟩ := ch_on (l := []) (k := 0) r1 (by decide) (Nat.zero_le _) trivial ⟨by rw [a3 24 (by omega)]; exact h.2.1.2.2.1, trivial⟩
  have sc2 := sc1.fr (fun a c => b3.1 a (by omega))
  have g3 := cnt_3 sc2 b2
  rw [show (hO (playV (baseOf it) []).1).length = 0 from rfl] at g3
  have c28 : CD w2 28 ds := ⟨by rw [b3.1 28 (by omega)]; exact a2.1, CDl_fr _ (fun j _ => by rw [b3.1 (28 + 1) (by omega), b3.1 (28 + 2) (by omega), b3.1 (28 + 3) (by omega)]; exact ⟨rfl, rfl, rfl⟩) a2.2⟩
  obtain ⟨w3, c1, c2, c3⟩ := ch_on (l := ds) (k := 1) b2 (by decide) hl hv c28
  obtain ⟨w4, d1, d2, d3⟩ := ch_undo (n := 0) c2 (Nat.zero_le _)
  rw [Nat.sub_zero] at d1 d2
  rw [List.drop_length] at d2
  have fr : ∀ a, a < 36 → w4.1 a = w1.1 a := fun a c => (d3.1 a (by omega)).trans ((c3.1 a (by omega)).trans (b3.1 a (by omega)))
  have sc4 : SC w4 := sc1.fr fr
  have g1 := cnt_1 sc4 d2
  rw [show hH (playV (baseOf it) []).1 = 0 from rfl] at g1
  unfold ff_la_law_68_b ff_la_law_2670
  simp only [u32_lit]
  rw [if_pos (by decide), cnt_2 hsc h.1, cI_, a1, cI_, if_pos rfl, b1, cI_, if_pos (show u32 ([] : List Deed).length = u32 0 from rfl), g3, cI_, if_pos rfl, c1, cI_, if_pos rfl, d1, cI_, if_pos rfl, g1, cI_, if_pos rfl, sm_N_eq]
  exact L2670 hb h15 hp hst h6 ha 6 0 1000000 w4 (by omega) (by omega) (fun q hq => absurd hq (Nat.not_lt_zero _)) sc4.1 (fun a c d => by rw [fr a (by omega), a3 a (by omega)]; exact h.2.1.2.2.2 a (by omega) d)
theorem L68 {E : Nat × (Nat → Int32)} (hE : E.1 ≤ 260) {wb : sm_Mem} {it : List It} {a7 : Int64} (hb : BG wb) (h15 : wb.1 15 1 = u32 40) (hp : psr (wb.1 16) 40 0 [] = (none, it)) (hst : ∀ r, r < 4 → SzOk wb (15 + 2 * r) 60) (h6 : it.length ≤ 6) (ha : a7 = digV wb (baseOf it) [] (mixL (countV wb (baseOf it) []) 0 11 17)) : ∀ (m T F : Nat) (w : sm_Mem) (ds : List Deed), T + m = 3 → m < F → ds.length ≤ 3 * T → SI wb w (baseOf it) ds → OkR (ff_la_law_68_f E F (u32 it.length) (u32 (2 ^ it.length - 1)) a7 (u32 T) w) := by
  intro m
  induction m with
  | zero =>
    intro T F w ds hm hF hl h
    obtain ⟨F, rfl⟩ : ∃ G, F = G + 1 := ⟨F - 1, by omega⟩
    have e : T = 3 := by omega
    rw [e, ff_la_law_68_f]
    exact L68x hb h15 hp hst h6 ha h
  | succ m ih =>
    intro T F w ds hm hF hl h
    obtain ⟨F, rfl⟩ : ∃ G, F = G + 1 := ⟨F - 1, by omega⟩
    obtain ⟨x, hx⟩ := la_cell E hE (7 + T) (by omega)
    obtain ⟨y, hy⟩ := la_cell E hE (10 + T) (by omega)
    obtain ⟨w1, ds1, s1, s2, s3⟩ := la_stir (x := y) (n := 1 + T) (by omega) (by omega) h
    have hS : TC (ff_la_law_68_f E F) wb (baseOf it) ds1 T a7 := ⟨by omega, by omega, fun w' h' => ih (T + 1) F w' ds1 (by omega) (by omega) (by omega) h'⟩
    obtain ⟨hok, hn, -, n6⟩ := s2.1.n
    have l8 := hok.2.2.2.1
    have hsc := s2.2.1.2.1
    have fin := fun w' h' => L186 (x := x) (w := w') hE hS h'
    rw [ff_la_law_68_f]
    unfold ff_la_law_68_b
    simp only [u32_lit, u32_add]
    rw [if_neg (by rw [u32_le (by omega) (by omega)]; omega), hx, cI_, hy, cI_, s3, cI_, if_neg (by decide), cnt_2 hsc s2.1, cI_, cnt_1 hsc s2.1, cI_, cnt_3 hsc s2.1, cI_, cnt_4 hsc s2.1, cI_, cnt_5 hsc s2.1, cI_, cnt_6 hsc s2.1, cI_]
    by_cases e : (hO (playV (baseOf it) ds1).1).length = 0
    · have e0 : hO (playV (baseOf it) ds1).1 = [] := List.eq_nil_of_length_eq_zero e
      have f1 := fin w1 s2
      rw [if_pos (by rw [e])]
      unfold ff_la_law_170
      simp only [u32_lit]
      rw [if_pos (by rw [e])]
      rw [e0] at f1 ⊢
      exact f1
    · obtain ⟨p, r, e0⟩ : ∃ p r, hO (playV (baseOf it) ds1).1 = p :: r := by
        cases q : hO (playV (baseOf it) ds1).1 with
        | nil => rw [q] at e; exact absurd rfl e
        | cons p r => exact ⟨p, r, rfl⟩
      have g := ch_said (k := (hO (playV (baseOf it) ds1).1).length - 1) s2.1 (by omega)
      have eo : ordAt (hO (playV (baseOf it) ds1).1) ((hO (playV (baseOf it) ds1).1).length - 1) = p := by
        rw [e0]
        exact ord_new
      rw [eo] at g
      have f1 := fin (sm_wI w1 60 0 (u32 p.2)) (s2.a (s2.1.told (by omega)) AFr.told)
      rw [if_neg (by rw [u32_eq (by omega) (by omega)]; exact e), u32_sub (by omega), g, cI_]
      unfold ff_la_law_170
      simp only [u32_lit]
      rw [if_neg (by rw [u32_eq (by omega) (by omega)]; exact e), as_eq, cI_, sm_wI_eq]
      rw [show oAns (lastW (hO (playV (baseOf it) ds1).1)) = u32 p.1 by rw [e0]; rfl, show oAns (lastI (hO (playV (baseOf it) ds1).1)) = u32 p.2 by rw [e0]; rfl] at f1
      exact f1
theorem shl_all {n : Nat} (h : n ≤ 6) : (u32 1 <<< (u32 n &&& u32 31)) - u32 1 = u32 (2 ^ n - 1) := by
  have key : ∀ n, n < 7 → (u32 1 <<< (u32 n &&& u32 31)) - u32 1 = u32 (2 ^ n - 1) := by decide +kernel
  exact key n (by omega)
theorem la_all {E : Nat × (Nat → Int32)} (hE : E.1 ≤ 260) {w : sm_Mem} (hr : ∀ r, r < 6 → w.1 (2 + 2 * r) 1 = -u32 9) (ht : ∀ r, r < 4 → w.1 (15 + 2 * r) 1 = -u32 9) : OkR (ff_la_law E w) := by
  obtain ⟨w1, it, a1, a2, a3, a4, a5, a6, a7, a8⟩ := la_house hE (w := w)
  have n6 : it.length ≤ 6 := a4.n.2.2.2
  have hbg : BG w1 := ⟨fun r hr' => by rw [a8 _ (by omega) (by omega) (by omega)]; exact hr r hr', a7⟩
  have hst : ∀ r, r < 4 → SzOk w1 (15 + 2 * r) 60 := fun r hr' => by
    by_cases e : r = 0
    · rw [e]
      exact Or.inr ⟨40, by decide, a3⟩
    · refine Or.inl ?_
      rw [a8 _ (by omega) (by omega) (by omega)]
      exact ht r hr'
  have hsc := hbg.sc hst
  obtain ⟨w2, b1, b2, b3, -⟩ := ch_keep (k := 0) a4 (by decide) (show ¬ it.length = 0 by omega)
  have b3 : ∀ a, (a < 24 ∨ 27 < a) → w2.1 a = w1.1 a := b3
  have sc2 : SC w2 := by
    obtain ⟨s1, s2, s3⟩ := hsc
    refine ⟨fun r hr => ?_, fun r hr => ?_, fun k hk => ?_⟩
    · have := s1 r hr
      unfold SzOk at this ⊢
      rw [b3 _ (by omega)]
      exact this
    · have := s2 r hr
      unfold SzOk at this ⊢
      rw [b3 _ (by omega)]
      exact this
    · rcases (show k = 0 ∨ k = 1 ∨ k = 2 by omega) with rfl | rfl | rfl
      · exact Or.inr ⟨0, by omega, b2.1⟩
      · exact (s3 1 hk).fr (b3 28 (by omega))
      · exact (s3 2 hk).fr (b3 32 (by omega))
  have hSI : SI w1 w2 (baseOf it) [] := ⟨a4.fr (fun a c d => b3 a (by omega)), ⟨a5.fr (b3 62 (by omega)) (b3 63 (by omega)), sc2, b2.1, fun a c d => b3 a (by omega)⟩, a6⟩
  have g62 : w1.1 62 0 = u32 it.length := a5.1
  unfold ff_la_law ff_la_law_68
  simp only [u32_lit]
  rw [a1, cI_, if_neg (by decide), sm_rd_u (by omega) (by omega), bs_, g62, ch_digest hsc a4, cL_, b1, cI_, if_pos (show u32 ([] : List Deed).length = u32 0 from rfl), shl_all n6, sm_N_eq]
  exact L68 hE hbg a3 a2 hst n6 rfl 3 0 1000000 w2 [] (by omega) (by omega) (by decide) hSI
