/-! pure: a turn of the law, its beginning: who can say what, who is refused; an hour; an order ended -/
theorem upd_eq {f : Nat → Nat} {i v : Nat} : updN f i v i = v := if_pos rfl
theorem upd_ne {f : Nat → Nat} {i v j : Nat} (h : j ≠ i) : updN f i v j = f j := if_neg h
theorem play_b (B : HBase) (l : List Deed) (i : Nat) : hB (playV B l).1 i ≤ B.2.2.2.2 i := by
  induction l with
  | nil => exact Nat.le_refl _
  | cons d r ih =>
    show hB (perfV B (playV B r) d).1 i ≤ _
    unfold perfV
    split
    · show updN (hB (playV B r).1) d.2.1 (hB (playV B r).1 d.2.1 - 1) i ≤ _
      by_cases e : i = d.2.1
      · rw [← e, upd_eq]; omega
      · rw [upd_ne e]; exact ih
    · exact ih
    · exact Nat.le_refl _
    · exact ih
def sN (f : Nat → Nat) : Nat → Nat → Nat
  | _, 0 => 0
  | i, m + 1 => f i + sN f (i + 1) m
theorem sumB_n {f : Nat → Nat} : ∀ (m i a : Nat), sumB f i m (u32 a) = u32 (a + sN f i m)
  | 0, _, _ => rfl
  | m + 1, i, a => by
    rw [sumB, sN, u32_add, sumB_n m (i + 1), Nat.add_assoc]
theorem sN_le {f : Nat → Nat} : ∀ (m i : Nat), (∀ j, i ≤ j → j < i + m → f j ≤ 9) → sN f i m ≤ 9 * m
  | 0, _, _ => Nat.le_refl _
  | m + 1, i, h => by
    have h1 := h i (Nat.le_refl _) (by omega)
    have h2 := sN_le m (i + 1) (fun j a b => h j (by omega) (by omega))
    rw [sN]
    omega
theorem sN_off {f : Nat → Nat} {p v : Nat} : ∀ (m i : Nat), p < i → sN (updN f p v) i m = sN f i m
  | 0, _, _ => rfl
  | m + 1, i, h => by
    rw [sN, sN, upd_ne (by omega), sN_off m (i + 1) (by omega)]
theorem sN_less {f : Nat → Nat} {p : Nat} (h0 : 0 < f p) : ∀ (m i : Nat), i ≤ p → p < i + m → sN (updN f p (f p - 1)) i m + 1 = sN f i m
  | 0, i, h1, h2 => absurd h1 (by omega)
  | m + 1, i, h1, h2 => by
    rw [sN, sN]
    by_cases e : i = p
    · rw [e, upd_eq, sN_off m (p + 1) (by omega)]
      omega
    · have := sN_less h0 m (i + 1) (by omega) (by omega)
      rw [upd_ne e]
      omega
theorem bre_n {w : sm_Mem} {B : HBase} {ds : List Deed} (h : RHs w B ds) : bre B ds = u32 (sN (hB (playV B ds).1) 0 B.1) ∧ sN (hB (playV B ds).1) 0 B.1 < 1000 := by
  obtain ⟨hok, hn, -, n6⟩ := h.n
  have := sN_le (f := hB (playV B ds).1) B.1 0 (fun j _ hj => (hok.2.1 j (by omega)).2.2.2)
  refine ⟨?_, by omega⟩
  unfold bre
  rw [hn, sumB_n, Nat.zero_add]
theorem bre_say {w w1 : sm_Mem} {B : HBase} {ds : List Deed} {i y : Nat} (h : RHs w B ds) (h1 : RHs w1 B ((0, i, y) :: ds)) (hi : i < B.1) (h0 : 0 < hB (playV B ds).1 i) : bre B ((0, i, y) :: ds) = bre B ds - u32 1 := by
  have e := sN_less h0 B.1 0 (Nat.zero_le _) (by omega)
  rw [(bre_n h1).1, (bre_n h).1, u32_sub (by omega)]
  have e2 : sN (hB (playV B ((0, i, y) :: ds)).1) 0 B.1 = sN (updN (hB (playV B ds).1) i (hB (playV B ds).1 i - 1)) 0 B.1 := rfl
  rw [e2]
  congr 1
  omega
theorem ord_new {p : Nat × Nat} {r : List (Nat × Nat)} : ordAt (p :: r) r.length = p := by
  unfold ordAt
  rw [List.length_cons, show r.length + 1 - 1 - r.length = 0 by omega]
  rfl
theorem say_some {H : HV} {i : Nat} (h : ¬ sayF H i = u32 0) : ∃ y, canV H i y = true := by
  by_cases q : ∃ y, canV H i y = true
  · exact q
  · refine absurd (orF_no 6 0 (u32 0) (fun j _ _ => ?_)) h
    cases e : canV H i j with
    | true => exact absurd ⟨j, e⟩ q
    | false => rfl
theorem say_none {H : HV} {i : Nat} (h : ∀ y, canV H i y = false) : sayF H i = u32 0 := orF_no 6 0 (u32 0) (fun j _ _ => h j)
def lastI : List (Nat × Nat) → Option Nat
  | [] => none
  | p :: _ => some p.2
theorem not_who {H : HV} {i y : Nat} (hok : HOk H) (h : canV H i y = true) (hi : i < 6) : ¬ u32 i = oAns (lastI (hO H)) := by
  obtain ⟨-, -, h3⟩ := canV_n h
  have h5 := hok.2.2.2.2
  have h6 := hok.1
  unfold besideV at h3
  cases e : hO H with
  | nil =>
    show ¬ u32 i = -u32 9
    rw [u32_eq_neg (by omega) (by decide) (by decide)]
    exact id
  | cons p r =>
    rw [e] at h3
    have hp := h5 p (by rw [e]; exact List.mem_cons_self)
    simp only [Bool.and_eq_true, bne_iff_ne, ne_eq] at h3
    show ¬ u32 i = u32 p.2
    rw [u32_eq (by omega) (by omega)]
    exact fun z => h3.1 z.symm
theorem L325 {E : Nat × (Nat → Int32)} {S : Int32 → Int32 → Int64 → Int32 → sm_Mem → sm_R} {wb : sm_Mem} {B : HBase} {ds : List Deed} {T : Nat} {a7 : Int64} {x : Int32} {i : Nat} {W A : Int32} {K : Int32 → Int32 → Int64 → Int32 → Int32 → Int32 → Int32 → Int32 → Int32 → Int32 → Int32 → Int32 → Int32 → Int32 → Int32 → sm_Mem → sm_R} (hl : ds.length ≤ 9) (hi : i < B.1) (hK : ∀ w, SI wb w B ds → OkR (K (u32 B.1) (u32 (2 ^ B.1 - 1)) a7 (u32 T) x (u32 ds.length) (u32 (hH (playV B ds).1)) (u32 (hO (playV B ds).1).length) (u32 (playV B ds).2) (bre B ds) (u32 (nxt (playV B ds).1)) (oAns (lastW (hO (playV B ds).1))) W A (u32 i + u32 1) w)) : ∀ (m k F : Nat) (w : sm_Mem), k + m = 6 → m < F → SI wb w B ds → OkR (ff_la_law_325_f E S K F (u32 B.1) (u32 (2 ^ B.1 - 1)) a7 (u32 T) x (u32 ds.length) (u32 (hH (playV B ds).1)) (u32 (hO (playV B ds).1).length) (u32 (playV B ds).2) (bre B ds) (u32 (nxt (playV B ds).1)) (oAns (lastW (hO (playV B ds).1))) W A (u32 i) (u32 (hB (playV B ds).1 i)) (sayF (playV B ds).1 i) (u32 k) w) := by
  intro m
  induction m with
  | zero =>
    intro k F w hk hF h
    obtain ⟨F, rfl⟩ : ∃ G, F = G + 1 := ⟨F - 1, by omega⟩
    rw [ff_la_law_325_f]
    unfold ff_la_law_325_b
    simp only [u32_lit]
    rw [if_pos (by rw [u32_le (by omega) (by omega)]; omega)]
    exact hK w h
  | succ m ih =>
    intro k F w hk hF h
    obtain ⟨F, rfl⟩ : ∃ G, F = G + 1 := ⟨F - 1, by omega⟩
    obtain ⟨hok, hn, -, n6⟩ := h.1.n
    have hk6 : k < 6 := by omega
    have hi6 : i < 6 := by omega
    have ew : ((orF (fun j => canV (playV B ds).1 j k) 0 (hN (playV B ds).1) (u32 0) >>> (u32 i &&& u32 31)) &&& u32 1) = u32 (canV (playV B ds).1 i k).toNat := by
      rw [orF_set hok.1, u32_bit set_lt hi6, set_bit hi6, decide_eq_true (by omega : i < hN (playV B ds).1), Bool.true_and]
    have es : ((sayF (playV B ds).1 i >>> (u32 k &&& u32 31)) &&& u32 1) = u32 (canV (playV B ds).1 i k).toNat := by
      rw [say_set, u32_bit set_lt hk6, set_bit hk6]
    rw [ff_la_law_325_f]
    unfold ff_la_law_325_b ff_la_law_348 ff_la_law_372
    simp only [u32_lit]
    rw [if_neg (by rw [u32_le (by omega) (by omega)]; omega), es]
    cases hc : canV (playV B ds).1 i k with
    | false =>
      rw [hc] at ew
      rw [if_neg (show ¬ u32 false.toNat = u32 1 by decide), ch_who h.1 hk6, cI_, ew, if_neg (show ¬ u32 false.toNat = u32 1 by decide), if_pos trivial, ch_say_no h.1 hi hk6 hc, cI_, if_pos trivial]
      unfold ff_la_law_397
      simp only [u32_lit]
      rw [if_pos trivial, if_pos trivial, u32_add]
      exact ih (k + 1) F w (by omega) (by omega) h
    | true =>
      obtain ⟨b0, -, -⟩ := canV_n hc
      have b9 := (hok.2.1 i (by omega)).2.2.2
      obtain ⟨w1, a1, a2, a3⟩ := ch_say h.1 (by omega) hi hk6 hc
      have f1 : AFr w w1 := AFr.d a3
      have eo : ordAt (hO (playV B ((0, i, k) :: ds)).1) (hO (playV B ds).1).length = (k, i) := ord_new
      have d1 := ch_said (k := (hO (playV B ds).1).length) a2 (by show _ < ((k, i) :: hO (playV B ds).1).length; rw [List.length_cons]; omega)
      rw [eo] at d1
      have r2 : RHs (sm_wI w1 60 0 (u32 i)) B ((0, i, k) :: ds) := a2.told (by omega)
      have e1 := la_told (x := 4) r2 hi (by decide)
      rw [show factV B (playV B ((0, i, k) :: ds)).1 i 4 = u32 (hB (playV B ds).1 i - 1) from congrArg u32 upd_eq] at e1
      have r3 : RHs (sm_wI (sm_wI w1 60 0 (u32 i)) 60 0 (u32 (hB (playV B ds).1 i - 1))) B ((0, i, k) :: ds) := r2.told (by omega)
      have f3 : AFr w (sm_wI (sm_wI w1 60 0 (u32 i)) 60 0 (u32 (hB (playV B ds).1 i - 1))) := (f1.trans AFr.told).trans AFr.told
      have g1 := cnt_5 (h.2.1.a f3).2.1 r3
      rw [bre_say h.1 r3 hi b0] at g1
      have g2 := ch_what r3 hi
      rw [show sayF (playV B ((0, i, k) :: ds)).1 i = u32 0 from say_none (fun y => not_self)] at g2
      obtain ⟨w4, c1, c2, c3⟩ := ch_undo (n := ds.length) r3 (by rw [List.length_cons]; omega)
      rw [show ((0, i, k) :: ds : List Deed).length - ds.length = 1 by rw [List.length_cons]; omega] at c1 c2
      have c2 : RHs w4 B ds := c2
      have s4 : SI wb w4 B ds := h.a c2 (f3.trans (AFr.d c3))
      have e5 := la_told (x := 4) c2 hi (by decide)
      rw [show factV B (playV B ds).1 i 4 = u32 (hB (playV B ds).1 i) from rfl] at e5
      have s5 : SI wb (sm_wI w4 60 0 (u32 (hB (playV B ds).1 i))) B ds := s4.a (c2.told (by omega)) AFr.told
      rw [hc] at ew
      rw [if_pos (show u32 true.toNat = u32 1 from rfl), ch_who h.1 hk6, cI_, ew, if_pos (show u32 true.toNat = u32 1 from rfl), if_pos trivial, a1, cI_, if_neg (show ¬ u32 1 = u32 0 by decide)]
      unfold ff_la_law_397
      simp only [u32_lit]
      rw [u32_add, if_pos rfl, if_neg (show ¬ u32 1 = u32 0 by decide), d1, cI_, if_pos rfl, as_eq, cI_, sm_wI_eq, if_pos rfl, e1, cI_, u32_sub (by omega), if_pos rfl, g1, cI_, if_pos rfl, g2, cI_, if_pos rfl, c1, cI_, if_pos rfl, e5, cI_, if_pos rfl, u32_add]
      exact ih (k + 1) F _ (by omega) (by omega) s5
theorem L601 {E : Nat × (Nat → Int32)} {S : Int32 → Int32 → Int64 → Int32 → sm_Mem → sm_R} {wb : sm_Mem} {B : HBase} {ds : List Deed} {T : Nat} {a7 : Int64} {x : Int32} (hE : E.1 ≤ 260) (hS : TC S wb B ds T a7) {w : sm_Mem} (h : SI wb w B ds) : OkR (sm_cI (ff_ho_end w) fun x250 w251 => (if u32 (hO (playV B ds).1).length = (0 : Int32) then ff_la_law_601 E S (u32 B.1) (u32 (2 ^ B.1 - 1)) a7 (u32 T) x (u32 ds.length) (u32 (hH (playV B ds).1)) (u32 (hO (playV B ds).1).length) (u32 (playV B ds).2) (bre B ds) (u32 (nxt (playV B ds).1)) (oAns (lastW (hO (playV B ds).1))) x250 (-4 : Int32) w251 else ff_la_law_601 E S (u32 B.1) (u32 (2 ^ B.1 - 1)) a7 (u32 T) x (u32 ds.length) (u32 (hH (playV B ds).1)) (u32 (hO (playV B ds).1).length) (u32 (playV B ds).2) (bre B ds) (u32 (nxt (playV B ds).1)) (oAns (lastW (hO (playV B ds).1))) x250 (u32 (hO (playV B ds).1).length) w251)) := by
  obtain ⟨hok, hn, -, n6⟩ := h.1.n
  have h8 := hok.2.2.2.1
  have hd9 := hS.1
  simp only [u32_lit]
  by_cases e : (hO (playV B ds).1).length = 0
  · rw [ch_end_no h.1 e, cI_, if_pos (by rw [e])]
    unfold ff_la_law_601
    simp only [u32_lit]
    rw [if_pos trivial, if_pos (by rw [u32_le (by omega) (by omega)]; omega)]
    exact L651 hE hS h
  · obtain ⟨w1, a1, a2, a3⟩ := ch_end h.1 (by omega) e
    have f1 : AFr w w1 := AFr.d a3
    have hc := (h.2.1.a f1).2.1
    have g3 := cnt_3 hc a2
    rw [show (hO (playV B ((1, 0, 0) :: ds)).1).length = 0 from rfl] at g3
    have g4 := cnt_4 hc a2
    rw [show (playV B ((1, 0, 0) :: ds)).2 = (playV B ds).2 + 1 from rfl] at g4
    obtain ⟨w2, c1, c2, c3⟩ := ch_undo (n := ds.length) a2 (by rw [List.length_cons]; omega)
    rw [show ((1, 0, 0) :: ds : List Deed).length - ds.length = 1 by rw [List.length_cons]; omega] at c1 c2
    have c2 : RHs w2 B ds := c2
    have s2 : SI wb w2 B ds := h.a c2 (f1.trans (AFr.d c3))
    rw [a1, cI_, if_neg (by rw [u32_eq (by omega) (by omega)]; exact e)]
    unfold ff_la_law_601
    simp only [u32_lit]
    rw [if_pos trivial, if_neg (by rw [u32_le (by omega) (by omega)]; omega), g3, cI_, if_pos rfl, g4, cI_, u32_add, if_pos rfl, c1, cI_, if_pos rfl, cnt_3 s2.2.1.2.1 c2, cI_, if_pos rfl]
    exact L651 hE hS s2
theorem L533 {E : Nat × (Nat → Int32)} {S : Int32 → Int32 → Int64 → Int32 → sm_Mem → sm_R} {wb : sm_Mem} {B : HBase} {ds : List Deed} {T : Nat} {a7 : Int64} {x : Int32} (hE : E.1 ≤ 260) (hS : TC S wb B ds T a7) : ∀ (m i F : Nat) (w : sm_Mem), i + m = B.1 → m < F → RHs w B ((2, 0, 0) :: ds) → LO wb w B (playV B ds) → 0 < B.1 → OkR (ff_la_law_533_f E S F (u32 B.1) (u32 (2 ^ B.1 - 1)) a7 (u32 T) x (u32 ds.length) (u32 (hH (playV B ds).1)) (u32 (hO (playV B ds).1).length) (u32 (playV B ds).2) (bre B ds) (u32 (nxt (playV B ds).1)) (oAns (lastW (hO (playV B ds).1))) (u32 i) w) := by
  have hd9 := hS.1
  intro m
  induction m with
  | zero =>
    intro i F w hm hF h1 h2 h0
    obtain ⟨F, rfl⟩ : ∃ G, F = G + 1 := ⟨F - 1, by omega⟩
    have n6 := h1.n.2.2.2
    obtain ⟨w1, c1, c2, c3⟩ := ch_undo (n := ds.length) h1 (by rw [List.length_cons]; omega)
    rw [show ((2, 0, 0) :: ds : List Deed).length - ds.length = 1 by rw [List.length_cons]; omega] at c1 c2
    have c2 : RHs w1 B ds := c2
    have s1 : SI wb w1 B ds := ⟨c2, h2.a (AFr.d c3), h0⟩
    have fin := L601 (x := x) hE hS s1
    rw [ff_la_law_533_f]
    unfold ff_la_law_533_b
    simp only [u32_lit] at fin ⊢
    rw [if_pos (by rw [u32_le (by omega) (by omega)]; omega), c1, cI_, if_pos rfl, cnt_5 s1.2.1.2.1 c2, cI_, if_pos rfl]
    exact fin
  | succ m ih =>
    intro i F w hm hF h1 h2 h0
    obtain ⟨F, rfl⟩ : ∃ G, F = G + 1 := ⟨F - 1, by omega⟩
    have n6 := h1.n.2.2.2
    have hi : i < B.1 := by omega
    have e4 := la_told (x := 4) h1 hi (by decide)
    rw [show factV B (playV B ((2, 0, 0) :: ds)).1 i 4 = u32 (B.2.2.2.2 i) from rfl] at e4
    have r1 : RHs (sm_wI w 60 0 (u32 (B.2.2.2.2 i))) B ((2, 0, 0) :: ds) := h1.told (by omega)
    have e3 := la_told (x := 3) r1 hi (by decide)
    rw [show factV B (playV B ((2, 0, 0) :: ds)).1 i 3 = u32 (B.2.2.2.2 i) from rfl] at e3
    rw [ff_la_law_533_f]
    unfold ff_la_law_533_b
    simp only [u32_lit]
    rw [if_neg (by rw [u32_le (by omega) (by omega)]; omega), e4, cI_, e3, cI_, if_pos rfl, u32_add]
    exact ih (i + 1) F _ (by omega) (by omega) (r1.told (by omega)) ((h2.a AFr.told).a AFr.told) h0
theorem L248 {E : Nat × (Nat → Int32)} {S : Int32 → Int32 → Int64 → Int32 → sm_Mem → sm_R} {wb : sm_Mem} {B : HBase} {ds : List Deed} {T : Nat} {a7 : Int64} {x : Int32} (hE : E.1 ≤ 260) (hS : TC S wb B ds T a7) : ∀ (m i F a : Nat) (w : sm_Mem), i + m = B.1 → m < F → a < 64 → anyN (playV B ds).1 i m a = nxt (playV B ds).1 → SI wb w B ds → OkR (ff_la_law_248_f E S F (u32 B.1) (u32 (2 ^ B.1 - 1)) a7 (u32 T) x (u32 ds.length) (u32 (hH (playV B ds).1)) (u32 (hO (playV B ds).1).length) (u32 (playV B ds).2) (bre B ds) (u32 (nxt (playV B ds).1)) (oAns (lastW (hO (playV B ds).1))) (oAns (lastI (hO (playV B ds).1))) (u32 a) (u32 i) w) := by
  have hd9 := hS.1
  intro m
  induction m with
  | zero =>
    intro i F a w hm hF ha hany h
    obtain ⟨F, rfl⟩ : ∃ G, F = G + 1 := ⟨F - 1, by omega⟩
    obtain ⟨hok, hn, -, n6⟩ := h.1.n
    have hany : a = nxt (playV B ds).1 := hany
    obtain ⟨w1, a1, a2, a3⟩ := ch_hour h.1 (by omega) (by have := h.2.2; omega)
    have l1 := h.2.1.a (AFr.d a3)
    have g3 := cnt_3 l1.2.1 a2
    rw [show (hO (playV B ((2, 0, 0) :: ds)).1).length = (hO (playV B ds).1).length from rfl] at g3
    rw [ff_la_law_248_f]
    unfold ff_la_law_248_b ff_la_law_533
    simp only [u32_lit]
    rw [if_pos (by rw [u32_le (by omega) (by omega)]; omega), if_pos (by rw [hany]), a1, cI_, u32_add, if_pos rfl, g3, cI_, if_pos rfl, sm_N_eq]
    exact L533 hE hS B.1 0 1000000 w1 (by omega) (by omega) a2 l1 h.2.2
  | succ m ih =>
    intro i F a w hm hF ha hany h
    obtain ⟨F, rfl⟩ : ∃ G, F = G + 1 := ⟨F - 1, by omega⟩
    obtain ⟨hok, hn, -, n6⟩ := h.1.n
    have hi : i < B.1 := by omega
    have b9 := (hok.2.1 i (by omega)).2.2.2
    have bb := play_b B ds i
    have bB := (h.1.1.2 i hi).2.2.2
    have l8 := hok.2.2.2.1
    obtain ⟨o1, o2⟩ := u32_or ha (set_lt (p := canV (playV B ds).1 i))
    have e4 := la_told (x := 4) h.1 hi (by decide)
    rw [show factV B (playV B ds).1 i 4 = u32 (hB (playV B ds).1 i) from rfl] at e4
    have s1 : SI wb (sm_wI w 60 0 (u32 (hB (playV B ds).1 i))) B ds := h.a (h.1.told (by omega)) AFr.told
    have g := ch_what s1.1 hi
    have e3 := la_told (x := 3) s1.1 hi (by decide)
    rw [show factV B (playV B ds).1 i 3 = u32 (B.2.2.2.2 i) from rfl] at e3
    have s2 : SI wb (sm_wI (sm_wI w 60 0 (u32 (hB (playV B ds).1 i))) 60 0 (u32 (B.2.2.2.2 i))) B ds := s1.a (s1.1.told (by omega)) AFr.told
    have fin : OkR (ff_la_law_325_f E S (ff_la_law_248_f E S F) 1000000 (u32 B.1) (u32 (2 ^ B.1 - 1)) a7 (u32 T) x (u32 ds.length) (u32 (hH (playV B ds).1)) (u32 (hO (playV B ds).1).length) (u32 (playV B ds).2) (bre B ds) (u32 (nxt (playV B ds).1)) (oAns (lastW (hO (playV B ds).1))) (oAns (lastI (hO (playV B ds).1))) (u32 a ||| sayF (playV B ds).1 i) (u32 i) (u32 (hB (playV B ds).1 i)) (sayF (playV B ds).1 i) (u32 0) (sm_wI (sm_wI w 60 0 (u32 (hB (playV B ds).1 i))) 60 0 (u32 (B.2.2.2.2 i)))) := by
      rw [say_set, o1, ← say_set]
      exact L325 hd9 hi (fun w' s' => by
        rw [u32_add]
        exact ih (i + 1) F _ w' (by omega) (by omega) o2 hany s') 6 0 1000000 _ (by omega) (by omega) s2
    rw [ff_la_law_248_f]
    unfold ff_la_law_248_b ff_la_law_325
    simp only [u32_lit]
    rw [if_neg (by rw [u32_le (by omega) (by omega)]; omega), e4, cI_, g, cI_, if_neg (by rw [u0_lt (by omega)]; exact id), e3, cI_, if_neg (by rw [u32_lt (by omega) (by omega)]; omega), sm_N_eq]
    by_cases q : sayF (playV B ds).1 i = u32 0
    · rw [if_pos q]
      exact fin
    · obtain ⟨y, hy⟩ := say_some q
      obtain ⟨p1, p2, -⟩ := canV_n hy
      rw [if_neg q, if_neg (by rw [u32_eq (by omega) (by omega)]; omega), if_neg (not_who hok hy (by omega)), if_neg (by rw [u32_eq (by omega) (by omega)]; omega)]
      exact fin
theorem L186 {E : Nat × (Nat → Int32)} {S : Int32 → Int32 → Int64 → Int32 → sm_Mem → sm_R} {wb : sm_Mem} {B : HBase} {ds : List Deed} {T : Nat} {a7 : Int64} {x : Int32} (hE : E.1 ≤ 260) (hS : TC S wb B ds T a7) {w : sm_Mem} (h : SI wb w B ds) : OkR (ff_la_law_186 E S (u32 B.1) (u32 (2 ^ B.1 - 1)) a7 (u32 T) x (u32 ds.length) (u32 (hH (playV B ds).1)) (u32 (hO (playV B ds).1).length) (u32 (playV B ds).2) (bre B ds) (u32 (nxt (playV B ds).1)) (oAns (lastW (hO (playV B ds).1))) (oAns (lastI (hO (playV B ds).1))) w) := by
  obtain ⟨hok, hn, -, n6⟩ := h.1.n
  have l8 := hok.2.2.2.1
  obtain ⟨b1, b2⟩ := bre_n h.1
  obtain ⟨-, x2, -⟩ := nxt_spec (playV B ds).1
  have fin := L248 (x := x) hE hS B.1 0 1000000 0 w (by omega) (by omega) (by decide) (by unfold nxt; rw [hn]) h
  rw [b1] at fin ⊢
  unfold ff_la_law_186 ff_la_law_248
  simp only [u32_lit]
  rw [if_neg (by rw [u0_lt (by omega)]; exact id), if_neg (by rw [u32_lt (by omega) (by omega)]; omega), if_neg (by rw [u0_lt (by omega)]; exact id), if_neg (by rw [u0_lt (by omega)]; exact id), if_neg (by rw [u32_lt (by omega) (by omega)]; omega), sm_N_eq]
  cases e : hO (playV B ds).1 with
  | nil =>
    rw [e] at fin
    rw [if_neg (show ¬ u32 B.1 ≤ oAns (lastI []) by show ¬ u32 B.1 ≤ -u32 9; rw [u32_le_neg (by omega) (by decide) (by decide)]; exact id), if_pos (show u32 ([] : List (Nat × Nat)).length ≤ u32 0 by decide)]
    exact fin
  | cons p r =>
    have hp := hok.2.2.2.2 p (by rw [e]; exact List.mem_cons_self)
    rw [e] at fin
    have hl : (p :: r).length < 2147483648 := by rw [← e]; omega
    rw [if_neg (show ¬ u32 B.1 ≤ oAns (lastI (p :: r)) by show ¬ u32 B.1 ≤ u32 p.2; rw [u32_le (by omega) (by omega)]; omega), if_neg (by rw [u32_le hl (by omega), List.length_cons]; omega), if_neg (show ¬ oAns (lastW (p :: r)) < u32 0 by show ¬ u32 p.1 < u32 0; rw [u0_lt (by omega)]; exact id), if_pos (show oAns (lastW (p :: r)) ≤ u32 5 by show u32 p.1 ≤ u32 5; rw [u32_le (by omega) (by omega)]; omega)]
    exact fin
