/-! pure: the longest that can be said -/
/-- alike but for the words in the order -/
def ShpV (H H1 : HV) : Prop := hN H1 = hN H ∧ hR H1 = hR H ∧ hB H1 = hB H ∧ (hO H1).map (fun p => p.2) = (hO H).map (fun p => p.2)
theorem ShpV.refl {H : HV} : ShpV H H := ⟨rfl, rfl, rfl, rfl⟩
theorem ShpV.push {H H1 : HV} {i x y : Nat} (h : ShpV H H1) : ShpV (pushV H i x) (pushV H1 i y) := by
  obtain ⟨h1, h2, h3, h4⟩ := h
  refine ⟨h1, h2, ?_, ?_⟩
  · show updN (hB H1) i (hB H1 i - 1) = updN (hB H) i (hB H i - 1)
    rw [h3]
  · show i :: (hO H1).map (fun p => p.2) = i :: (hO H).map (fun p => p.2)
    rw [h4]
theorem ShpV.free {H H1 : HV} (h : ShpV H H1) (i : Nat) : freeV H1 i = freeV H i := by
  obtain ⟨h1, h2, h3, h4⟩ := h
  have hl : (hO H1).length = (hO H).length := by
    have := congrArg List.length h4
    rw [List.length_map, List.length_map] at this
    exact this
  unfold freeV
  rw [hl, h3]
  congr 1
  congr 1
  unfold besideV
  rw [h2]
  cases ho : hO H with
  | nil =>
    rw [ho] at h4
    cases ho1 : hO H1 with
    | nil => rfl
    | cons p r => rw [ho1] at h4; cases h4
  | cons q s =>
    rw [ho] at h4
    cases ho1 : hO H1 with
    | nil => rw [ho1] at h4; cases h4
    | cons p r =>
      rw [ho1, List.map_cons, List.map_cons] at h4
      have e : p.2 = q.2 := (List.cons.inj h4).1
      show (p.2 != i && nearV (hR H p.2) (hR H i)) = (q.2 != i && nearV (hR H q.2) (hR H i))
      rw [e]
/-- no way from a like house is longer -/
def Upto (H : HV) (d m : Nat) (J : Nat → Prop) : Prop := ∀ (H1 : HV) (r : List Nat) (q : List Nat), ShpV H H1 → d + r.length ≤ 4 → q ∈ wys 0 (glOf r) H1 → (∀ j, q.head? = some j → J j) → d + r.length ≤ m
theorem tr_freeTurns : ∀ (k d : Nat) (H : HV) (w : sm_Mem), d ≤ 4 → 4 < d + k → CH w H → HOk H → ∃ w1 m, ff_tr_freeTurns k (u32 d) w = some (.int (u32 m), w1) ∧ CH w1 H ∧ SFr w w1 ∧ d ≤ m ∧ m ≤ 4 ∧ Upto H d m (fun _ => True) := by
  intro k
  induction k with
  | zero => intro d H w hd hk; omega
  | succ k ih =>
    intro d H w hd hk hC hok
    have h6 := hok.1
    have loop : ∀ (m i F t : Nat) (w0 : sm_Mem), i + m = hN H → m < F → CH w0 H → d ≤ t → t ≤ 4 → Upto H d t (fun j => j < i) → ∃ w1 t1, ff_tr_freeTurns_4_f (ff_tr_freeTurns k) F (u32 d) (u32 t) (u32 i) w0 = some (.int (u32 t1), w1) ∧ CH w1 H ∧ SFr w0 w1 ∧ d ≤ t1 ∧ t1 ≤ 4 ∧ Upto H d t1 (fun _ => True) := by
      intro m
      induction m with
      | zero =>
        intro i F t w0 hm hF hC0 hdt ht hU
        obtain ⟨F, rfl⟩ : ∃ G, F = G + 1 := ⟨F - 1, by omega⟩
        refine ⟨w0, t, ?_, hC0, SFr.refl, hdt, ht, fun H1 r q hs hl hq _ => hU H1 r q hs hl hq (fun j hj => ?_)⟩
        · rw [ff_tr_freeTurns_4_f]
          unfold ff_tr_freeTurns_4_b
          simp (disch := omega) only [hC0.1, u32_le, if_pos]
        · have hjm : j ∈ q := by
            cases q with
            | nil => cases hj
            | cons x q => cases hj; exact List.mem_cons_self
          have := (wys_each (glOf r) H1 q hq).2 j hjm
          rw [hs.1] at this
          omega
      | succ m ihm =>
        intro i F t w0 hm hF hC0 hdt ht hU
        obtain ⟨F, rfl⟩ : ∃ G, F = G + 1 := ⟨F - 1, by omega⟩
        have hi : i < hN H := by omega
        by_cases hd4 : 4 ≤ d
        · refine ⟨w0, t, ?_, hC0, SFr.refl, hdt, ht, fun H1 r q hs hl hq _ => by omega⟩
          rw [ff_tr_freeTurns_4_f]
          unfold ff_tr_freeTurns_4_b
          simp (disch := omega) only [u32_lit, hC0.1, u32_le, if_neg, if_pos hd4]
        by_cases ht4 : 4 ≤ t
        · refine ⟨w0, t, ?_, hC0, SFr.refl, hdt, ht, fun H1 r q hs hl hq _ => by omega⟩
          rw [ff_tr_freeTurns_4_f]
          unfold ff_tr_freeTurns_4_b
          simp (disch := omega) only [u32_lit, hC0.1, u32_le, if_neg, if_pos ht4]
        have hfree := ho_isFree hC0 hok hi
        by_cases hf : freeV H i = true
        · have hf2 := hf
          unfold freeV at hf2
          simp only [Bool.and_eq_true, decide_eq_true_eq] at hf2
          obtain ⟨w2, p1, p2, p3⟩ := hs_push (x := 0) hC0 hok hi hf2.1 hf2.2.1
          obtain ⟨w3, t2, r1, r2, r3, r4, r5, r6⟩ := ih (d + 1) (pushV H i 0) w2 (by omega) (by omega) p2 (pushV_ok hok hi (by omega) hf2.1)
          obtain ⟨w4, s1, s2, s3⟩ := hs_pop r2 hok hi hf2.1 hf2.2.1
          have hU1 : Upto H d (if t < t2 then t2 else t) (fun j => j < i + 1) := by
            intro H1 r q hs hl hq hj
            by_cases hji : q.head? = some i
            · cases r with
              | nil => rw [List.length_nil]; split <;> omega
              | cons x r =>
                have hq2 := hq
                rw [show glOf (x :: r) = (x, none) :: glOf r from rfl, wys, lpF_mem] at hq2
                obtain ⟨j, h1, h2, h3⟩ := hq2
                by_cases hst : stepV 0 H1 j (x, none) = true
                · rw [if_pos hst] at h3
                  obtain ⟨p, h4, rfl⟩ := List.mem_map.mp h3
                  cases hji
                  rw [List.length_cons] at hl ⊢
                  have := r6 (pushV H1 i x) r p hs.push (by omega) h4 (fun _ _ => trivial)
                  split <;> omega
                · rw [if_neg hst] at h3
                  cases h3
            · have := hU H1 r q hs hl hq (fun j hj2 => by
                have h1 := hj j hj2
                have h2 : j ≠ i := fun e => hji (by rw [hj2, e])
                show j < i
                have h1 : j < i + 1 := h1
                omega)
              split <;> omega
          obtain ⟨w5, t3, x1, x2, x3, x4, x5, x6⟩ := ihm (i + 1) F (if t < t2 then t2 else t) w4 (by omega) (by omega) s2 (by split <;> omega) (by split <;> omega) hU1
          refine ⟨w5, t3, ?_, x2, ((p3.trans r3).trans s3).trans x3, x4, x5, x6⟩
          rw [hf] at hfree
          have emax : (if u32 t < u32 t2 then u32 t2 else u32 t) = u32 (if t < t2 then t2 else t) := by
            simp (disch := omega) only [u32_lt]
            split <;> rfl
          rw [ff_tr_freeTurns_4_f]
          unfold ff_tr_freeTurns_4_b
          simp (disch := omega) only [u32_lit, hC0.1, u32_le, if_neg, hfree, cI_, u32_bool_eq0, p1, cV_, u32_add, r1, s1, emax]
          rw [if_neg (by decide)]
          exact x1
        · have hf := eq_false_of_ne_true hf
          have hU1 : Upto H d t (fun j => j < i + 1) := by
            intro H1 r q hs hl hq hj
            refine hU H1 r q hs hl hq (fun j hj2 => ?_)
            have h1 : j < i + 1 := hj j hj2
            have h2 : j ≠ i := fun e => by
              cases r with
              | nil =>
                rw [show glOf [] = [] from rfl, wys, List.mem_singleton] at hq
                rw [hq] at hj2
                cases hj2
              | cons x r =>
                rw [show glOf (x :: r) = (x, none) :: glOf r from rfl, wys, lpF_mem] at hq
                obtain ⟨j', h1, h2, h3⟩ := hq
                by_cases hst : stepV 0 H1 j' (x, none) = true
                · rw [if_pos hst] at h3
                  obtain ⟨p, h4, rfl⟩ := List.mem_map.mp h3
                  cases hj2
                  rw [e] at hst
                  unfold stepV canV at hst
                  rw [hs.free i, hf] at hst
                  simp at hst
                · rw [if_neg hst] at h3
                  cases h3
            show j < i
            omega
          obtain ⟨w5, t3, x1, x2, x3, x4, x5, x6⟩ := ihm (i + 1) F t w0 (by omega) (by omega) hC0 hdt ht hU1
          refine ⟨w5, t3, ?_, x2, x3, x4, x5, x6⟩
          rw [hf] at hfree
          rw [ff_tr_freeTurns_4_f]
          unfold ff_tr_freeTurns_4_b
          simp (disch := omega) only [u32_lit, hC0.1, u32_le, if_neg, hfree, cI_, u32_bool_eq0, if_true, u32_add]
          exact x1
    obtain ⟨w1, t1, a1, a2, a3, a4, a5, a6⟩ := loop (hN H) 0 1000000 d w (by omega) (by omega) hC (Nat.le_refl _) hd (fun H1 r q hs hl hq hj => by
      cases r with
      | nil => rw [List.length_nil]; exact Nat.le_refl _
      | cons x r =>
        have hlen := (wys_each (glOf (x :: r)) H1 q hq).1
        rw [glOf_len, List.length_cons] at hlen
        cases q with
        | nil => rw [List.length_nil] at hlen; omega
        | cons y q => exact absurd (hj y rfl) (Nat.not_lt_zero _))
    refine ⟨w1, t1, ?_, a2, a3, a4, a5, a6⟩
    rw [ff_tr_freeTurns]
    unfold ff_tr_freeTurns_0 ff_tr_freeTurns_4
    rw [sm_N_eq]
    exact a1
/-! rows in their order -/
def okR (H : HV) (r : List Nat) : Bool := !(wys 0 (glOf r) H).isEmpty
def visR (H : HV) : Nat → List Nat → List (List Nat)
  | 0, _ => []
  | d + 1, p => lpF (fun x => if okR H (p ++ [x]) = true then (p ++ [x]) :: visR H d (p ++ [x]) else []) 0 6
def allR : Nat → List Nat → List (List Nat)
  | 0, p => [p]
  | d + 1, p => lpF (fun x => allR d (p ++ [x])) 0 6
def updR (b r : List Nat) : List Nat := if b.length < r.length then r else b
theorem visR_mem {H : HV} : ∀ (d : Nat) (p r : List Nat), r ∈ visR H d p → okR H r = true ∧ p.length < r.length ∧ r.length ≤ p.length + d
  | 0, p, r, h => by cases h
  | d + 1, p, r, h => by
    rw [visR, lpF_mem] at h
    obtain ⟨x, -, -, h⟩ := h
    by_cases ho : okR H (p ++ [x]) = true
    · rw [if_pos ho] at h
      rcases List.mem_cons.mp h with rfl | h
      · rw [List.length_append, List.length_singleton]
        exact ⟨ho, by omega, by omega⟩
      · have := visR_mem d (p ++ [x]) r h
        rw [List.length_append, List.length_singleton] at this
        exact ⟨this.1, by omega, by omega⟩
    · rw [if_neg ho] at h
      cases h
theorem allR_mem : ∀ (d : Nat) (p r : List Nat), r ∈ allR d p → ∃ t, r = p ++ t ∧ t.length = d
  | 0, p, r, h => by
    rw [allR, List.mem_singleton] at h
    exact ⟨[], by rw [h, List.append_nil], rfl⟩
  | d + 1, p, r, h => by
    rw [allR, lpF_mem] at h
    obtain ⟨x, -, -, h⟩ := h
    obtain ⟨t, rfl, ht⟩ := allR_mem d (p ++ [x]) r h
    exact ⟨x :: t, by rw [List.append_assoc]; rfl, by rw [List.length_cons, ht]⟩
theorem wys_app_nil {sil : Nat} : ∀ (a b : List Gl) (H : HV), wys sil a H = [] → wys sil (a ++ b) H = []
  | [], b, H, h => by rw [wys] at h; cases h
  | g :: a, b, H, h => by
    rw [wys] at h
    rw [List.cons_append, wys]
    refine lpF_nil _ _ (fun j h1 h2 => ?_)
    have e := lpF_each h h1 h2
    by_cases hs : stepV sil H j g = true
    · rw [if_pos hs] at e ⊢
      rw [List.map_eq_nil_iff] at e ⊢
      exact wys_app_nil a b _ e
    · rw [if_neg hs]
theorem okR_pre {H : HV} {p t : List Nat} (h : okR H p = false) : okR H (p ++ t) = false := by
  unfold okR at h ⊢
  have h1 : wys 0 (glOf p) H = [] := by
    cases hw : wys 0 (glOf p) H with
    | nil => rfl
    | cons q l => rw [hw] at h; cases h
  have e : glOf (p ++ t) = glOf p ++ glOf t := List.map_append
  rw [e, wys_app_nil _ _ H h1]
  rfl
theorem visR_filter {H : HV} : ∀ (d k : Nat) (p : List Nat), k < d → (visR H d p).filter (fun r => r.length == p.length + (k + 1)) = (allR (k + 1) p).filter (okR H)
  | 0, k, p, h => absurd h (Nat.not_lt_zero _)
  | d + 1, 0, p, h => by
    rw [visR, allR, lpF_filter, lpF_filter]
    refine lpF_congr _ _ (fun x _ _ => ?_)
    rw [allR]
    by_cases ho : okR H (p ++ [x]) = true
    · rw [if_pos ho, List.filter_cons_of_pos (by rw [List.length_append, List.length_singleton]; simp), List.filter_cons_of_pos ho]
      refine congrArg (fun l => (p ++ [x]) :: l) ?_
      rw [List.filter_eq_nil_iff.mpr]
      · rfl
      · intro r hr
        have := (visR_mem d (p ++ [x]) r hr).2.1
        rw [List.length_append, List.length_singleton] at this
        simp
        omega
    · rw [if_neg ho, List.filter_cons_of_neg ho]
      rfl
  | d + 1, k + 1, p, h => by
    rw [visR, allR, lpF_filter, lpF_filter]
    refine lpF_congr _ _ (fun x _ _ => ?_)
    by_cases ho : okR H (p ++ [x]) = true
    · rw [if_pos ho, List.filter_cons_of_neg (by rw [List.length_append, List.length_singleton]; simp), ← visR_filter d k (p ++ [x]) (by omega)]
      refine congrArg (fun f => List.filter f (visR H d (p ++ [x]))) ?_
      funext r
      rw [List.length_append, List.length_singleton]
      congr 1
      omega
    · rw [if_neg ho]
      symm
      rw [List.filter_nil, List.filter_eq_nil_iff]
      intro r hr
      obtain ⟨t, rfl, -⟩ := allR_mem (k + 1) (p ++ [x]) r hr
      rw [okR_pre (eq_false_of_ne_true ho)]
      decide
theorem rows_all {n : Nat} (hn : n ≤ 4) : lpF (fun s => [digL n s]) 0 (6 ^ n) = allR n [] := by
  have key : ∀ n, n < 5 → lpF (fun s => [digL n s]) 0 (6 ^ n) = allR n [] := by decide +kernel
  exact key n (by omega)
theorem upd_id {b : List Nat} : ∀ (l : List (List Nat)), (∀ r, r ∈ l → r.length ≤ b.length) → l.foldl updR b = b
  | [], _ => rfl
  | r :: l, h => by
    have := h r List.mem_cons_self
    rw [List.foldl_cons, updR, if_neg (by omega)]
    exact upd_id l (fun r hr => h r (List.mem_cons_of_mem _ hr))
theorem upd_first {N : Nat} : ∀ (l : List (List Nat)) (b r : List Nat), b.length < N → (∀ r, r ∈ l → r.length ≤ N) → ((l.filter (fun r => r.length == N)).head? = some r) → l.foldl updR b = r
  | [], b, r, _, _, h => by cases h
  | q :: l, b, r, hb, hl, h => by
    rw [List.foldl_cons]
    by_cases hq : q.length = N
    · rw [List.filter_cons_of_pos (by simpa using hq)] at h
      cases h
      rw [updR, if_pos (by omega)]
      exact upd_id l (fun r hr => by rw [hq]; exact hl r (List.mem_cons_of_mem _ hr))
    · rw [List.filter_cons_of_neg (by simpa using hq)] at h
      refine upd_first l _ r ?_ (fun r hr => hl r (List.mem_cons_of_mem _ hr)) h
      have := hl q List.mem_cons_self
      unfold updR
      split <;> omega
/-- the first number with a way -/
def findU (P : Nat → Bool) : Nat → Nat → Option Nat
  | _, 0 => none
  | s, m + 1 => if P s = true then some s else findU P (s + 1) m
theorem findU_head {P : List Nat → Bool} {n : Nat} : ∀ (m s : Nat), ((lpF (fun s => [digL n s]) s m).filter P).head? = (findU (fun s => P (digL n s)) s m).map (digL n)
  | 0, s => rfl
  | m + 1, s => by
    rw [lpF, findU, List.singleton_append]
    by_cases h : P (digL n s) = true
    · rw [List.filter_cons_of_pos h, if_pos h]
      rfl
    · rw [List.filter_cons_of_neg h, if_neg h]
      exact findU_head m (s + 1)
theorem findU_lt {P : Nat → Bool} : ∀ (m s x : Nat), findU P s m = some x → s ≤ x ∧ x < s + m
  | 0, s, x, h => by cases h
  | m + 1, s, x, h => by
    rw [findU] at h
    split at h
    · cases h; omega
    · have := findU_lt m (s + 1) x h
      omega
/-- the reference's longest: the length and the number -/
def longF (H : HV) : Nat → Nat × Nat
  | 0 => (0, 0)
  | n + 1 => match findU (sayP H (n + 1)) 0 (6 ^ (n + 1)) with
    | some s => (n + 1, s)
    | none => longF H n
theorem longF_le {H : HV} : ∀ n, (longF H n).1 ≤ n ∧ (longF H n).2 < 6 ^ n
  | 0 => ⟨Nat.le_refl _, by rw [longF]; decide⟩
  | n + 1 => by
    have h := longF_le (H := H) n
    have hp : 6 ^ n ≤ 6 ^ (n + 1) := Nat.pow_le_pow_right (by decide) (Nat.le_succ _)
    rw [longF]
    cases hf : findU (sayP H (n + 1)) 0 (6 ^ (n + 1)) with
    | none => exact ⟨by have := h.1; dsimp only; omega, by have := h.2; dsimp only; omega⟩
    | some s => exact ⟨Nat.le_refl _, by have := (findU_lt _ _ _ hf).2; dsimp only; omega⟩
theorem longest_same {H : HV} : ∀ n, n ≤ 4 → (∀ r, r ∈ visR H 4 [] → r.length ≤ n) → (visR H 4 []).foldl updR [] = digL (longF H n).1 (longF H n).2
  | 0, _, h => by
    have : visR H 4 [] = [] := by
      rw [List.eq_nil_iff_forall_not_mem]
      intro r hr
      have h1 := (visR_mem 4 [] r hr).2.1
      have h2 := h r hr
      rw [List.length_nil] at h1
      omega
    rw [this]
    rfl
  | n + 1, hn, h => by
    have hfil := visR_filter (H := H) 4 n [] (by omega)
    have hrows := rows_all hn
    have hfind := findU_head (P := okR H) (n := n + 1) (6 ^ (n + 1)) 0
    rw [hrows, ← hfil] at hfind
    have hP : (fun s => okR H (digL (n + 1) s)) = sayP H (n + 1) := rfl
    rw [hP] at hfind
    rw [List.length_nil, Nat.zero_add] at hfind
    rw [longF]
    cases hf : findU (sayP H (n + 1)) 0 (6 ^ (n + 1)) with
    | some s =>
      rw [hf] at hfind
      exact upd_first _ _ _ (Nat.succ_pos _) h hfind
    | none =>
      rw [hf] at hfind
      refine longest_same n (by omega) (fun r hr => ?_)
      have h1 := h r hr
      by_cases e : r.length = n + 1
      · have hm : r ∈ (visR H 4 []).filter (fun r => r.length == n + 1) := List.mem_filter.mpr ⟨hr, by simpa using e⟩
        cases hl : (visR H 4 []).filter (fun r => r.length == n + 1) with
        | nil => rw [hl] at hm; cases hm
        | cons a l => rw [hl] at hfind; cases hfind
      · omega
/-! the class -/
def LgFr (w w1 : sm_Mem) : Prop := (∀ a, (a < 36 ∨ (36 < a ∧ a < 42) ∨ (44 < a ∧ a < 56) ∨ 58 < a) → w1.1 a = w.1 a) ∧ (∀ j, j ≠ 11 → w1.1 36 j = w.1 36 j) ∧ w1.2 = w.2
theorem LgFr.refl {w : sm_Mem} : LgFr w w := ⟨fun _ _ => rfl, fun _ _ => rfl, rfl⟩
theorem LgFr.trans {w w1 w2 : sm_Mem} (h1 : LgFr w w1) (h2 : LgFr w1 w2) : LgFr w w2 := ⟨fun a ha => (h2.1 a ha).trans (h1.1 a ha), fun j hj => (h2.2.1 j hj).trans (h1.2.1 j hj), h2.2.2.trans h1.2.2⟩
theorem LgFr.s {w w1 : sm_Mem} (h : SFr w w1) : LgFr w w1 := ⟨fun a ha => (TFr.s h).1 a (by omega), h.2.2, h.1.2.1⟩
theorem LgFr.w {w : sm_Mem} {a j : Nat} {x : Int32} (ha : 56 ≤ a) (hb : a ≤ 58) : LgFr w (sm_wI w a j x) := ⟨fun b hb => sm_wI_ne (by omega), fun i _ => by rw [sm_wI_ne (by omega)], rfl⟩
theorem XFr.lg {w w1 : sm_Mem} (h : LgFr w w1) : XFr w w1 := ⟨fun a ha => h.1 a (by omega), h.2.1, by rw [h.1 60 (by omega)]⟩
theorem LgFr.ch {w w1 : sm_Mem} {H : HV} (h : ∀ a, a < 56 → w1.1 a = w.1 a) (hC : CH w H) : CH w1 H := CH_fr (fun a _ h2 => h a (by omega)) hC
def BW (w : sm_Mem) (b : List Nat) : Prop := w.1 56 3 = u32 b.length ∧ b.length ≤ 4 ∧ ∀ j x, b[j]? = some x → w.1 58 j = u32 x
def PWt (w : sm_Mem) (p : List Nat) : Prop := ∀ j x, p[j]? = some x → w.1 57 j = u32 x ∧ x < 6
theorem tr_keepBest {w : sm_Mem} {p : List Nat} (hp : PWt w p) (h4 : p.length ≤ 4) : ∃ w1, ff_tr_keepBest (u32 p.length) w = some (.null, w1) ∧ BW w1 p ∧ (∀ a, a ≠ 56 → a ≠ 58 → w1.1 a = w.1 a) ∧ w1.2 = w.2 := by
  have loop : ∀ (m j F : Nat) (w0 : sm_Mem), j + m = p.length → m < F → PWt w0 p → (∀ i x, i < j → p[i]? = some x → w0.1 58 i = u32 x) → ∃ w1, ff_tr_keepBest_7_f F (u32 p.length) (u32 j) w0 = some (.null, w1) ∧ (∀ i x, p[i]? = some x → w1.1 58 i = u32 x) ∧ (∀ a, a ≠ 58 → w1.1 a = w0.1 a) ∧ w1.2 = w0.2 := by
    intro m
    induction m with
    | zero =>
      intro j F w0 hm hF hp0 h
      obtain ⟨F, rfl⟩ : ∃ G, F = G + 1 := ⟨F - 1, by omega⟩
      refine ⟨w0, ?_, fun i x hx => h i x (by have := (List.getElem?_eq_some_iff.mp hx).1; omega) hx, fun _ _ => rfl, rfl⟩
      rw [ff_tr_keepBest_7_f]
      unfold ff_tr_keepBest_7_b
      simp (disch := omega) only [u32_le, if_pos]
    | succ m ih =>
      intro j F w0 hm hF hp0 h
      obtain ⟨F, rfl⟩ : ∃ G, F = G + 1 := ⟨F - 1, by omega⟩
      have hj : j < p.length := by omega
      have e2 : p[j]? = some p[j] := List.getElem?_eq_getElem hj
      obtain ⟨w1, a1, a2, a3, a4⟩ := ih (j + 1) F (sm_wI w0 58 j (u32 p[j])) (by omega) (by omega) (fun i x hx => by rw [sm_wI_ne (by decide)]; exact hp0 i x hx) (fun i x hi hx => by
        by_cases e : i = j
        · subst e
          rw [e2] at hx
          cases hx
          rw [sm_wI_eq]
        · rw [sm_wI_nj e]; exact h i x (by omega) hx)
      refine ⟨w1, ?_, a2, fun a ha => by rw [a3 a ha, sm_wI_ne ha], by rw [a4]; rfl⟩
      rw [ff_tr_keepBest_7_f]
      unfold ff_tr_keepBest_7_b
      simp (disch := omega) only [u32_lit, u32_le, if_neg, sm_rd_u, bs_, (hp0 j _ e2).1, sm_wr_u, u32_add]
      exact a1
  obtain ⟨w1, a1, a2, a3, a4⟩ := loop p.length 0 1000000 (sm_wI w 56 3 (u32 p.length)) (by omega) (by omega) (fun i x hx => by rw [sm_wI_ne (by decide)]; exact hp i x hx) (fun i x hi _ => absurd hi (Nat.not_lt_zero _))
  refine ⟨w1, ?_, ⟨by rw [a3 56 (by decide), sm_wI_eq], h4, a2⟩, fun a h1 h2 => by rw [a3 a h2, sm_wI_ne h1], by rw [a4]; rfl⟩
  unfold ff_tr_keepBest ff_tr_keepBest_7
  rw [let_, sm_N_eq]
  exact a1
theorem tr_lengthen {H : HV} {mo : Nat} (hok : HOk H) (hm4 : mo ≤ 4) (hmo : ∀ r, okR H r = true → r.length ≤ 4 → r.length ≤ mo) : ∀ (k : Nat) (p b : List Nat) (w : sm_Mem), p.length ≤ 4 → 4 < p.length + k → CH w H → PWt w p → BW w b → ∃ w1, ff_tr_lengthen k (u32 p.length) (u32 mo) w = some (.null, w1) ∧ CH w1 H ∧ PWt w1 p ∧ BW w1 ((visR H (4 - p.length) p).foldl updR b) ∧ LgFr w w1 := by
  intro k
  induction k with
  | zero => intro p b w h1 h2; omega
  | succ k ih =>
    intro p b w h1 h2 hC hp hb
    by_cases hd : mo ≤ p.length
    · have hv : visR H (4 - p.length) p = [] := by
        rw [List.eq_nil_iff_forall_not_mem]
        intro r hr
        obtain ⟨x1, x2, x3⟩ := visR_mem _ p r hr
        have := hmo r x1 (by omega)
        omega
      refine ⟨w, ?_, hC, hp, by rw [hv]; exact hb, LgFr.refl⟩
      rw [ff_tr_lengthen]
      unfold ff_tr_lengthen_0
      simp (disch := omega) only [u32_le, if_pos]
    have hd4 : p.length < 4 := by omega
    have loop : ∀ (m c F : Nat) (b : List Nat) (w : sm_Mem), c + m = 6 → m < F → CH w H → PWt w p → BW w b → ∃ w1, ff_tr_lengthen_13_f (ff_tr_lengthen k) F (u32 p.length) (u32 mo) (u32 c) w = some (.null, w1) ∧ CH w1 H ∧ PWt w1 p ∧ BW w1 ((lpF (fun x => if okR H (p ++ [x]) = true then (p ++ [x]) :: visR H (3 - p.length) (p ++ [x]) else []) c m).foldl updR b) ∧ LgFr w w1 := by
      intro m
      induction m with
      | zero =>
        intro c F b w hm hF hC hp hb
        obtain ⟨F, rfl⟩ : ∃ G, F = G + 1 := ⟨F - 1, by omega⟩
        refine ⟨w, ?_, hC, hp, hb, LgFr.refl⟩
        rw [ff_tr_lengthen_13_f]
        unfold ff_tr_lengthen_13_b
        simp (disch := omega) only [u32_lit, u32_le, if_pos]
      | succ m ihm =>
        intro c F b w hm hF hC hp hb
        obtain ⟨F, rfl⟩ : ∃ G, F = G + 1 := ⟨F - 1, by omega⟩
        have hb4 := hb.2.1
        by_cases hbm : mo ≤ b.length
        · refine ⟨w, ?_, hC, hp, ?_, LgFr.refl⟩
          · rw [ff_tr_lengthen_13_f]
            unfold ff_tr_lengthen_13_b
            simp (disch := omega) only [u32_lit, u32_le, if_neg, hb.1, if_pos hbm]
          · rw [upd_id]
            · exact hb
            · intro r hr
              rw [lpF_mem] at hr
              obtain ⟨x, -, -, hr⟩ := hr
              by_cases ho : okR H (p ++ [x]) = true
              · rw [if_pos ho] at hr
                rcases List.mem_cons.mp hr with rfl | hr
                · have := hmo _ ho (by rw [List.length_append, List.length_singleton]; omega)
                  omega
                · obtain ⟨x1, x2, x3⟩ := visR_mem _ _ r hr
                  rw [List.length_append, List.length_singleton] at x3
                  have := hmo r x1 (by omega)
                  omega
              · rw [if_neg ho] at hr
                cases hr
        have hpl : (p ++ [c]).length = p.length + 1 := by rw [List.length_append, List.length_singleton]
        have hp1 : PWt (sm_wI w 57 p.length (u32 c)) (p ++ [c]) := by
          intro j x hx
          by_cases hj : j < p.length
          · rw [List.getElem?_append_left hj] at hx
            rw [sm_wI_nj (by omega)]
            exact hp j x hx
          · have hjl := (List.getElem?_eq_some_iff.mp hx).1
            rw [hpl] at hjl
            have : j = p.length := by omega
            subst this
            rw [List.getElem?_append_right (Nat.le_refl _), Nat.sub_self] at hx
            cases hx
            exact ⟨sm_wI_eq, by omega⟩
        have hC1 : CH (sm_wI w 57 p.length (u32 c)) H := LgFr.ch (fun a ha => sm_wI_ne (by omega)) hC
        obtain ⟨w2, t1, t2, t3⟩ := tr_hasWay (glOf (p ++ [c])) 8 0 (p.length + 1) H (sm_wI w 57 p.length (u32 c)) (by rw [glOf_len, hpl]; omega) (by rw [glOf_len, hpl]; omega) (by omega) (fun j g hj => by
          obtain ⟨y1, y2⟩ := glOf_at hj
          rw [Nat.zero_add]
          exact ⟨(hp1 j _ y1).1, y2, (hp1 j _ y1).2⟩) hC1 hok
        have hf2 : LgFr w w2 := (LgFr.w (by omega) (by omega)).trans (LgFr.s t3)
        have hp2 : PWt w2 (p ++ [c]) := fun j x hx => by rw [t3.hi (by decide)]; exact hp1 j x hx
        have hpre : ∀ w3 : sm_Mem, PWt w3 (p ++ [c]) → PWt w3 p := fun w3 h3 j x hx => h3 j x (by rw [List.getElem?_append_left (List.getElem?_eq_some_iff.mp hx).1]; exact hx)
        have hb2 : BW w2 b := ⟨by rw [t3.hi (by decide), sm_wI_ne (by decide)]; exact hb.1, hb.2.1, fun j x hx => by rw [t3.hi (by decide), sm_wI_ne (by decide)]; exact hb.2.2 j x hx⟩
        have step : ff_tr_lengthen_13_f (ff_tr_lengthen k) (F + 1) (u32 p.length) (u32 mo) (u32 c) w = if okR H (p ++ [c]) = false then ff_tr_lengthen_13_f (ff_tr_lengthen k) F (u32 p.length) (u32 mo) (u32 (c + 1)) w2 else (if p.length + 1 ≤ b.length then ff_tr_lengthen_65 (ff_tr_lengthen k) (ff_tr_lengthen_13_f (ff_tr_lengthen k) F) (u32 p.length) (u32 mo) (u32 c) w2 else (sm_cV (ff_tr_keepBest (u32 (p.length + 1)) w2) fun w7 => ff_tr_lengthen_65 (ff_tr_lengthen k) (ff_tr_lengthen_13_f (ff_tr_lengthen k) F) (u32 p.length) (u32 mo) (u32 c) w7)) := by
          rw [ff_tr_lengthen_13_f]
          unfold ff_tr_lengthen_13_b
          simp (disch := omega) only [u32_lit, u32_le, if_neg, hb.1, sm_wr_u, bs_, u32_add, t1, cI_, u32_bool_eq0, hb2.1]
          rfl
        have rest : ∀ (b2 : List Nat) (w3 : sm_Mem), CH w3 H → PWt w3 (p ++ [c]) → BW w3 b2 → ∃ w1, ff_tr_lengthen_65 (ff_tr_lengthen k) (ff_tr_lengthen_13_f (ff_tr_lengthen k) F) (u32 p.length) (u32 mo) (u32 c) w3 = some (.null, w1) ∧ CH w1 H ∧ PWt w1 p ∧ BW w1 ((lpF (fun x => if okR H (p ++ [x]) = true then (p ++ [x]) :: visR H (3 - p.length) (p ++ [x]) else []) (c + 1) m).foldl updR ((visR H (3 - p.length) (p ++ [c])).foldl updR b2)) ∧ LgFr w3 w1 := by
          intro b2 w3 g1 g2 g3
          obtain ⟨w4, i1, i2, i3, i4, i5⟩ := ih (p ++ [c]) b2 w3 (by omega) (by omega) g1 g2 g3
          rw [hpl] at i1 i4
          rw [show 4 - (p.length + 1) = 3 - p.length by omega] at i4
          obtain ⟨w5, j1, j2, j3, j4, j5⟩ := ihm (c + 1) F _ w4 (by omega) (by omega) i2 (hpre w4 i3) i4
          refine ⟨w5, ?_, j2, j3, j4, i5.trans j5⟩
          unfold ff_tr_lengthen_65
          rw [u32_lit, u32_add, i1, cV_, u32_add]
          exact j1
        rw [lpF, List.foldl_append]
        by_cases ho : okR H (p ++ [c]) = true
        · rw [ho, if_neg (by decide)] at step
          rw [if_pos ho, List.foldl_cons]
          by_cases hlb : p.length + 1 ≤ b.length
          · rw [if_pos hlb] at step
            obtain ⟨w3, r1, r2, r3, r4, r5⟩ := rest b w2 t2 hp2 hb2
            rw [show updR b (p ++ [c]) = b from if_neg (by omega)]
            exact ⟨w3, step.trans r1, r2, r3, r4, hf2.trans r5⟩
          · rw [if_neg hlb] at step
            obtain ⟨w3, k1, k2, k3, k4⟩ := tr_keepBest hp2 (by omega)
            rw [hpl] at k1
            rw [k1, cV_] at step
            obtain ⟨w4, r1, r2, r3, r4, r5⟩ := rest (p ++ [c]) w3 (LgFr.ch (fun a ha => k3 a (by omega) (by omega)) t2) (fun j x hx => by rw [k3 57 (by decide) (by decide)]; exact hp2 j x hx) k2
            rw [show updR b (p ++ [c]) = p ++ [c] from if_pos (by omega)]
            exact ⟨w4, step.trans r1, r2, r3, r4, (hf2.trans ⟨fun a ha => k3 a (by omega) (by omega), fun j _ => by rw [k3 36 (by decide) (by decide)], k4⟩).trans r5⟩
        · rw [eq_false_of_ne_true ho, if_pos rfl] at step
          rw [if_neg ho]
          obtain ⟨w3, r1, r2, r3, r4, r5⟩ := ihm (c + 1) F b w2 (by omega) (by omega) t2 (hpre w2 hp2) hb2
          exact ⟨w3, step.trans r1, r2, r3, r4, hf2.trans r5⟩
    obtain ⟨w1, a1, a2, a3, a4, a5⟩ := loop 6 0 1000000 b w (by omega) (by omega) hC hp hb
    refine ⟨w1, ?_, a2, a3, ?_, a5⟩
    · rw [ff_tr_lengthen]
      unfold ff_tr_lengthen_0 ff_tr_lengthen_13
      simp (disch := omega) only [u32_lit, u32_le, if_neg, u32_lt, if_pos]
      rw [sm_N_eq]
      exact a1
    · rw [show 4 - p.length = 3 - p.length + 1 by omega, visR]
      exact a4
theorem okR_upto {H : HV} {m : Nat} (hU : Upto H 0 m (fun _ => True)) {r : List Nat} (h : okR H r = true) (h4 : r.length ≤ 4) : r.length ≤ m := by
  unfold okR at h
  cases hw : wys 0 (glOf r) H with
  | nil => rw [hw] at h; cases h
  | cons q l =>
    have := hU H r q ShpV.refl (by omega) (by rw [hw]; exact List.mem_cons_self) (fun _ _ => trivial)
    omega
theorem tr_seekLongest {H : HV} {w : sm_Mem} (hok : HOk H) (hC : CH w H) : ∃ w1, ff_tr_seekLongest w = some (.null, w1) ∧ CH w1 H ∧ BW w1 (digL (longF H 4).1 (longF H 4).2) ∧ LgFr w w1 := by
  have hC0 : CH (sm_wI w 56 3 (u32 0)) H := LgFr.ch (fun a ha => sm_wI_ne (by omega)) hC
  obtain ⟨w1, m, a1, a2, a3, a4, a5, a6⟩ := tr_freeTurns 8 0 H (sm_wI w 56 3 (u32 0)) (by omega) (by omega) hC0 hok
  obtain ⟨w2, b1, b2, b3, b4, b5⟩ := tr_lengthen hok a5 (fun r h1 h2 => okR_upto a6 h1 h2) 8 [] [] w1 (by decide) (by decide) a2 (fun j x hx => by cases hx) ⟨by rw [a3.hi (by decide), sm_wI_eq]; rfl, by decide, fun j x hx => by cases hx⟩
  refine ⟨w2, ?_, b2, ?_, ((LgFr.w (by omega) (by omega)).trans (LgFr.s a3)).trans b5⟩
  · unfold ff_tr_seekLongest
    rw [let_, u32_lit, a1, cI_]
    have b1 : ff_tr_lengthen 8 (u32 0) (u32 m) w1 = some (.null, w2) := b1
    rw [b1, cV_]
  · rw [← longest_same 4 (by omega) (fun r hr => by have := (visR_mem 4 [] r hr).2.2; rw [List.length_nil] at this; omega)]
    exact b4
