/-! pure: deeds (the latest ahead); a house by its deeds; the houses of class and reference -/
abbrev Deed : Type := Nat × Nat × Nat
/-- how many, kinds, words, rooms at first, breath as told -/
abbrev HBase : Type := Nat × (Nat → Nat) × (Nat → Nat) × (Nat → Nat) × (Nat → Nat)
abbrev HX : Type := HV × Nat
def updN (f : Nat → Nat) (i v : Nat) : Nat → Nat := fun j => if j = i then v else f j
def pushV (H : HV) (i x : Nat) : HV := (hN H, hK H, hW H, hR H, updN (hB H) i (hB H i - 1), hH H, (x, i) :: hO H)
def startV (B : HBase) : HX := ((B.1, B.2.1, B.2.2.1, B.2.2.2.1, B.2.2.2.2, 0, []), 0)
def perfV (B : HBase) (X : HX) (d : Deed) : HX := match d.1 with
  | 0 => (pushV X.1 d.2.1 d.2.2, X.2)
  | 1 => ((hN X.1, hK X.1, hW X.1, hR X.1, hB X.1, hH X.1, []), X.2 + 1)
  | 2 => ((hN X.1, hK X.1, hW X.1, hR X.1, B.2.2.2.2, hH X.1 + 1, hO X.1), X.2)
  | _ => ((hN X.1, hK X.1, hW X.1, updN (hR X.1) d.2.1 d.2.2, hB X.1, hH X.1, hO X.1), X.2)
def okD (X : HX) (d : Deed) : Prop := (d.1 = 0 ∧ d.2.1 < hN X.1 ∧ d.2.2 < 6 ∧ canV X.1 d.2.1 d.2.2 = true) ∨ (d.1 = 1 ∧ d.2.1 = 0 ∧ d.2.2 = 0) ∨ (d.1 = 2 ∧ d.2.1 = 0 ∧ d.2.2 = 0) ∨ (d.1 = 3 ∧ d.2.1 < hN X.1 ∧ d.2.2 < 6)
def playV (B : HBase) : List Deed → HX
  | [] => startV B
  | d :: r => perfV B (playV B r) d
def validV (B : HBase) : List Deed → Prop
  | [] => True
  | d :: r => okD (playV B r) d ∧ validV B r
def BOk (B : HBase) : Prop := B.1 ≤ 6 ∧ ∀ i, i < B.1 → B.2.1 i < 6 ∧ B.2.2.1 i < 64 ∧ B.2.2.2.1 i < 6 ∧ B.2.2.2.2 i ≤ 9
theorem canV_free {H : HV} {i x : Nat} (h : canV H i x = true) : (hO H).length < 8 ∧ 0 < hB H i := by
  unfold canV freeV at h
  simp only [Bool.and_eq_true, decide_eq_true_eq] at h
  exact ⟨h.1.1, h.1.2.1⟩
theorem pushV_ok {H : HV} {i x : Nat} (h : HOk H) (hi : i < hN H) (hx : x < 6) (h8 : (hO H).length < 8) : HOk (pushV H i x) := by
  obtain ⟨h1, h2, h3, h4, h5⟩ := h
  refine ⟨h1, fun j hj => ?_, h3, ?_, fun p hp => ?_⟩
  · obtain ⟨a1, a2, a3, a4⟩ := h2 j hj
    refine ⟨a1, a2, a3, ?_⟩
    show updN (hB H) i (hB H i - 1) j ≤ 9
    unfold updN
    split
    · have := (h2 i hi).2.2.2
      omega
    · exact a4
  · show ((x, i) :: hO H).length ≤ 8
    rw [List.length_cons]
    omega
  · have hp : p ∈ (x, i) :: hO H := hp
    rcases List.mem_cons.mp hp with rfl | hp
    · exact ⟨hx, hi⟩
    · exact h5 p hp
theorem perfV_ok {B : HBase} {X : HX} {d : Deed} (hB : BOk B) (hn : hN X.1 = B.1) (h : HOk X.1) (hd : okD X d) (hh : hH X.1 < 999) : HOk (perfV B X d).1 ∧ hN (perfV B X d).1 = B.1 := by
  rcases hd with ⟨e, h1, h2, h3⟩ | ⟨e, -⟩ | ⟨e, -⟩ | ⟨e, h1, h2⟩
  · unfold perfV
    rw [e]
    exact ⟨pushV_ok h h1 h2 (canV_free h3).1, hn⟩
  · unfold perfV
    rw [e]
    exact ⟨⟨h.1, h.2.1, h.2.2.1, Nat.zero_le _, fun p hp => by cases hp⟩, hn⟩
  · unfold perfV
    rw [e]
    refine ⟨⟨h.1, fun j hj => ?_, ?_, h.2.2.2.1, h.2.2.2.2⟩, hn⟩
    · obtain ⟨a1, a2, a3, a4⟩ := h.2.1 j hj
      exact ⟨a1, a2, a3, (hB.2 j (by rw [← hn]; exact hj)).2.2.2⟩
    · show hH X.1 + 1 < 1000
      omega
  · unfold perfV
    rw [e]
    refine ⟨⟨h.1, fun j hj => ?_, h.2.2.1, h.2.2.2.1, h.2.2.2.2⟩, hn⟩
    obtain ⟨a1, a2, a3, a4⟩ := h.2.1 j hj
    refine ⟨a1, a2, ?_, a4⟩
    show updN (hR X.1) d.2.1 d.2.2 j < 6
    unfold updN
    split
    · exact h2
    · exact a3
theorem perfV_small {B : HBase} {X : HX} {d : Deed} : hH (perfV B X d).1 ≤ hH X.1 + 1 ∧ (perfV B X d).2 ≤ X.2 + 1 := by
  unfold perfV
  split
  · exact ⟨Nat.le_succ _, Nat.le_succ _⟩
  · exact ⟨Nat.le_succ _, Nat.le_refl _⟩
  · exact ⟨Nat.le_refl _, Nat.le_succ _⟩
  · exact ⟨Nat.le_succ _, Nat.le_succ _⟩
theorem playV_small {B : HBase} : ∀ (ds : List Deed), hH (playV B ds).1 ≤ ds.length ∧ (playV B ds).2 ≤ ds.length
  | [] => ⟨Nat.le_refl _, Nat.le_refl _⟩
  | d :: r => by
    have h := playV_small (B := B) r
    have h2 := perfV_small (B := B) (X := playV B r) (d := d)
    rw [List.length_cons]
    exact ⟨by show hH (perfV B (playV B r) d).1 ≤ _; omega, by show (perfV B (playV B r) d).2 ≤ _; omega⟩
theorem playV_ok {B : HBase} (hB : BOk B) : ∀ (ds : List Deed), ds.length ≤ 40 → validV B ds → HOk (playV B ds).1 ∧ hN (playV B ds).1 = B.1
  | [], _, _ => ⟨⟨hB.1, hB.2, (by decide : 0 < 1000), (by decide : 0 ≤ 8), fun p hp => by cases hp⟩, rfl⟩
  | d :: r, hl, hv => by
    rw [List.length_cons] at hl
    obtain ⟨h1, h2⟩ := playV_ok hB r (by omega) hv.2
    have h3 := playV_small (B := B) r
    exact perfV_ok hB h2 h1 hv.1 (by omega)
theorem validV_drop {B : HBase} : ∀ (k : Nat) (ds : List Deed), validV B ds → validV B (ds.drop k)
  | 0, ds, h => h
  | k + 1, [], h => trivial
  | k + 1, d :: r, h => validV_drop k r h.2
/-! in the memory -/
def CB (w : sm_Mem) (B : HBase) : Prop := ∀ i, i < B.1 → w.1 39 i = u32 (B.2.2.2.1 i) ∧ w.1 40 i = u32 (B.2.2.2.2 i)
def CDl (w : sm_Mem) (c : Nat) : List Deed → Prop
  | [] => True
  | d :: r => w.1 (c + 1) r.length = u32 d.1 ∧ w.1 (c + 2) r.length = u32 d.2.1 ∧ w.1 (c + 3) r.length = u32 d.2.2 ∧ CDl w c r
def CD (w : sm_Mem) (c : Nat) (ds : List Deed) : Prop := w.1 c 3 = u32 ds.length ∧ CDl w c ds
def CHX (w : sm_Mem) (X : HX) : Prop := CH w X.1 ∧ w.1 36 8 = u32 X.2
/-! what the pictures depend on -/
theorem ordC_fr {w w1 : sm_Mem} : ∀ (od : List (Nat × Nat)), (∀ j, j < od.length → w1.1 43 j = w.1 43 j ∧ w1.1 44 j = w.1 44 j) → ordC w od → ordC w1 od
  | [], _, _ => trivial
  | p :: r, h, ho => by
    have h1 := h r.length (by rw [List.length_cons]; omega)
    refine ⟨by rw [h1.1]; exact ho.1, by rw [h1.2]; exact ho.2.1, ordC_fr r (fun j hj => h j (by rw [List.length_cons]; omega)) ho.2.2⟩
theorem CH_fr {w w1 : sm_Mem} {H : HV} (h : ∀ a, 36 ≤ a → a < 45 → w1.1 a = w.1 a) (H1 : CH w H) : CH w1 H := by
  obtain ⟨h1, h2, h3, h4, h5⟩ := H1
  refine ⟨by rw [h 36 (by decide) (by decide)]; exact h1, fun i hi => ?_, by rw [h 36 (by decide) (by decide)]; exact h3, by rw [h 36 (by decide) (by decide)]; exact h4, ordC_fr _ (fun j _ => ⟨by rw [h 43 (by decide) (by decide)], by rw [h 44 (by decide) (by decide)]⟩) h5⟩
  rw [h 37 (by decide) (by decide), h 38 (by decide) (by decide), h 41 (by decide) (by decide), h 42 (by decide) (by decide)]
  exact h2 i hi
theorem CDl_fr {w w1 : sm_Mem} {c c1 : Nat} : ∀ (ds : List Deed), (∀ j, j < ds.length → w1.1 (c1 + 1) j = w.1 (c + 1) j ∧ w1.1 (c1 + 2) j = w.1 (c + 2) j ∧ w1.1 (c1 + 3) j = w.1 (c + 3) j) → CDl w c ds → CDl w1 c1 ds
  | [], _, _ => trivial
  | d :: r, h, hp => by
    rw [List.length_cons] at h
    obtain ⟨a1, a2, a3⟩ := h r.length (by omega)
    exact ⟨by rw [a1]; exact hp.1, by rw [a2]; exact hp.2.1, by rw [a3]; exact hp.2.2.1, CDl_fr r (fun j hj => h j (by omega)) hp.2.2.2⟩
