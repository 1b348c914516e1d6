/-! pure: the reference's search, one way after the other -/
def pthR (gs : List Gl) (H : HV) : List Nat → HV
  | [] => H
  | i :: rp => pushV (pthR gs H rp) i (gs.getD rp.length (0, none)).1
theorem pthR_n {gs : List Gl} {H : HV} : ∀ (rp : List Nat), hN (pthR gs H rp) = hN H ∧ hK (pthR gs H rp) = hK H ∧ hW (pthR gs H rp) = hW H ∧ hR (pthR gs H rp) = hR H ∧ hH (pthR gs H rp) = hH H ∧ (hO (pthR gs H rp)).length = (hO H).length + rp.length
  | [] => ⟨rfl, rfl, rfl, rfl, rfl, rfl⟩
  | i :: rp => by
    obtain ⟨a1, a2, a3, a4, a5, a6⟩ := pthR_n (gs := gs) (H := H) rp
    refine ⟨a1, a2, a3, a4, a5, ?_⟩
    show (_ :: hO (pthR gs H rp)).length = _
    rw [List.length_cons, List.length_cons, a6]
    omega
theorem HOk.who {H : HV} (h : HOk H) : ∀ l, lastWho (hO H) = some l → l < hN H := by
  intro l hl
  obtain ⟨-, -, -, -, h5⟩ := h
  cases ho : hO H with
  | nil => rw [ho] at hl; cases hl
  | cons p r =>
    rw [ho] at hl
    cases hl
    exact (h5 p (by rw [ho]; exact List.mem_cons_self)).2
theorem ma_e0 {k : Nat} (hk : k < 5) : (u32 (k + 1) = u32 0) = False := by
  rw [u32_eq (by omega) (by omega)]
  exact eq_false (Nat.succ_ne_zero k)
theorem ma_e1 {k : Nat} : u32 (k + 1) - u32 1 = u32 k := by
  rw [← u32_add, Int32.add_sub_cancel]
/-! what is still to come -/
def frF (sil : Nat) (gs : List Gl) (H : HV) (rp : List Nat) (j : Nat) : List (List Nat) := if stepV sil (pthR gs H rp) j (gs.getD rp.length (0, none)) = true then (wys sil (gs.drop (rp.length + 1)) (pthR gs H (j :: rp))).map (fun q => rp.reverse ++ j :: q) else []
def rem (sil : Nat) (gs : List Gl) (H : HV) : List Nat → Nat → List (List Nat)
  | [], c => lpF (frF sil gs H []) c (hN H - c)
  | i :: rp, c => lpF (frF sil gs H (i :: rp)) c (hN H - c) ++ rem sil gs H rp (i + 1)
def back (sil : Nat) (gs : List Gl) (H : HV) : List Nat → List (List Nat)
  | [] => []
  | i :: rp => rem sil gs H rp (i + 1)
theorem rem_eq {sil : Nat} {gs : List Gl} {H : HV} (rp : List Nat) (c : Nat) : rem sil gs H rp c = lpF (frF sil gs H rp) c (hN H - c) ++ back sil gs H rp := by
  cases rp with
  | nil => rw [rem, back, List.append_nil]
  | cons i rp => rw [rem, back]
theorem rem_none {sil : Nat} {gs : List Gl} {H : HV} {rp : List Nat} {c : Nat} {g : Gl} (hk : gs[rp.length]? = some g) (h : ∀ i, c ≤ i → i < hN H → stepV sil (pthR gs H rp) i g = false) : rem sil gs H rp c = back sil gs H rp := by
  rw [rem_eq, lpF_nil]
  · rfl
  · intro j h1 h2
    unfold frF
    rw [List.getD_eq_getElem?_getD, hk]
    show (if stepV sil (pthR gs H rp) j g = true then _ else _) = _
    rw [h j h1 (by omega), if_neg (by decide)]
theorem lpF_skip {α : Type} {f : Nat → List α} : ∀ (k c m : Nat), (∀ j, c ≤ j → j < c + k → f j = []) → lpF f c (k + m) = lpF f (c + k) m
  | 0, c, m, _ => by rw [Nat.zero_add, Nat.add_zero]
  | k + 1, c, m, h => by
    rw [show k + 1 + m = (k + m) + 1 by omega, lpF, h c (Nat.le_refl _) (by omega), lpF_skip k (c + 1) m (fun j a b => h j (by omega) (by omega)), show c + 1 + k = c + (k + 1) by omega]
    rfl
theorem rem_found {sil : Nat} {gs : List Gl} {H : HV} {rp : List Nat} {c j : Nat} {g : Gl} (hk : gs[rp.length]? = some g) (hcj : c ≤ j) (hj : j < hN H) (h : ∀ i, c ≤ i → i < j → stepV sil (pthR gs H rp) i g = false) (hs : stepV sil (pthR gs H rp) j g = true) : rem sil gs H rp c = (wys sil (gs.drop (rp.length + 1)) (pthR gs H (j :: rp))).map (fun q => rp.reverse ++ j :: q) ++ rem sil gs H rp (j + 1) := by
  have hg : gs.getD rp.length (0, none) = g := by rw [List.getD_eq_getElem?_getD, hk]; rfl
  rw [rem_eq, rem_eq rp (j + 1), show hN H - c = (j - c) + ((hN H - (j + 1)) + 1) by omega, lpF_skip (j - c) c _ (fun i a b => by
    unfold frF
    rw [hg, h i a (by omega), if_neg (by decide)]), show c + (j - c) = j by omega, lpF, List.append_assoc]
  refine congrArg (fun l => l ++ _) ?_
  unfold frF
  rw [hg, hs, if_pos rfl]
theorem rem_full {sil : Nat} {gs : List Gl} {H : HV} {rp : List Nat} {c j : Nat} {g : Gl} (hk : gs[rp.length]? = some g) (hl : rp.length + 1 = gs.length) (hcj : c ≤ j) (hj : j < hN H) (h : ∀ i, c ≤ i → i < j → stepV sil (pthR gs H rp) i g = false) (hs : stepV sil (pthR gs H rp) j g = true) : rem sil gs H rp c = (j :: rp).reverse :: rem sil gs H rp (j + 1) := by
  rw [rem_found hk hcj hj h hs, List.drop_eq_nil_of_le (by omega), wys, List.reverse_cons]
  rfl
theorem rem_down {sil : Nat} {gs : List Gl} {H : HV} {rp : List Nat} {c j : Nat} {g : Gl} (hk : gs[rp.length]? = some g) (hl : rp.length + 1 < gs.length) (hcj : c ≤ j) (hj : j < hN H) (h : ∀ i, c ≤ i → i < j → stepV sil (pthR gs H rp) i g = false) (hs : stepV sil (pthR gs H rp) j g = true) : rem sil gs H rp c = rem sil gs H (j :: rp) 0 := by
  rw [rem_found hk hcj hj h hs, rem_eq (j :: rp), back]
  refine congrArg (fun l => l ++ _) ?_
  have e2 : gs[rp.length + 1]? = some gs[rp.length + 1] := List.getElem?_eq_getElem hl
  rw [← List.getElem_cons_drop hl, wys, lpF_map, (pthR_n (j :: rp)).1, Nat.sub_zero]
  refine lpF_congr _ _ (fun i _ _ => ?_)
  unfold frF
  rw [List.length_cons, List.getD_eq_getElem?_getD, e2]
  show (if stepV sil (pthR gs H (j :: rp)) i gs[rp.length + 1] = true then _ else _ : List (List Nat)).map _ = _
  have e3 : pthR gs H (i :: j :: rp) = pushV (pthR gs H (j :: rp)) i gs[rp.length + 1].1 := by
    show pushV _ i (gs.getD (rp.length + 1) (0, none)).1 = _
    rw [List.getD_eq_getElem?_getD, e2]
    rfl
  rw [e3]
  show _ = (if stepV sil (pthR gs H (j :: rp)) i gs[rp.length + 1] = true then _ else _)
  split
  · rw [List.map_map]
    refine List.map_congr_left (fun q _ => ?_)
    show rp.reverse ++ j :: i :: q = (j :: rp).reverse ++ i :: q
    rw [List.reverse_cons, List.append_assoc]
    rfl
  · rfl
theorem rem_start {sil : Nat} {gs : List Gl} {H : HV} (h : 0 < gs.length) : rem sil gs H [] 0 = wys sil gs H := by
  cases gs with
  | nil => cases h
  | cons g gs =>
    rw [rem, wys, Nat.sub_zero]
    refine lpF_congr _ _ (fun i _ _ => ?_)
    unfold frF
    rfl
/-- a bound of the steps still to do -/
def phi : List Nat → Nat → Nat
  | [], c => (7 - c) * 8 ^ 5
  | i :: rp, c => (7 - c) * 8 ^ (4 - rp.length) + phi rp (i + 1)
theorem phi_pos {rp : List Nat} {c : Nat} (hc : c ≤ 6) : 0 < phi rp c := by
  have h8 : ∀ n, 0 < 8 ^ n := fun n => Nat.pow_pos (by decide)
  cases rp with
  | nil => exact Nat.mul_pos (by omega) (h8 _)
  | cons i rp => exact Nat.lt_of_lt_of_le (Nat.mul_pos (by omega) (h8 _)) (Nat.le_add_right _ _)
theorem phi_up {i c : Nat} {rp : List Nat} (hc : c ≤ 6) : phi rp (i + 1) < phi (i :: rp) c := by
  have h8 : ∀ n, 0 < 8 ^ n := fun n => Nat.pow_pos (by decide)
  have : 0 < (7 - c) * 8 ^ (4 - rp.length) := Nat.mul_pos (by omega) (h8 _)
  rw [phi]
  omega
theorem phi_mono {c d : Nat} (rp : List Nat) (h : c ≤ d) : phi rp d ≤ phi rp c := by
  have key : ∀ n, (7 - d) * 8 ^ n ≤ (7 - c) * 8 ^ n := fun n => Nat.mul_le_mul_right _ (by omega)
  cases rp with
  | nil => exact key _
  | cons i rp => exact Nat.add_le_add_right (key _) _
theorem phi_next {c d : Nat} (rp : List Nat) (h : c < d) (hd : d ≤ 7) : phi rp d < phi rp c := by
  have key : ∀ n, (7 - d) * 8 ^ n < (7 - c) * 8 ^ n := fun n => Nat.mul_lt_mul_of_pos_right (by omega) (Nat.pow_pos (by decide))
  cases rp with
  | nil => exact key _
  | cons i rp => exact Nat.add_lt_add_right (key _) _
theorem phi_down {c j : Nat} (rp : List Nat) (hcj : c ≤ j) (hj : j < 6) (hr : rp.length < 5) : phi (j :: rp) 0 < phi rp c := by
  have key : ∀ n, 7 * 8 ^ n + (7 - (j + 1)) * 8 ^ (n + 1) < (7 - c) * 8 ^ (n + 1) := by
    intro n
    have h8 : 0 < 8 ^ n := Nat.pow_pos (by decide)
    have e : 7 - c = (7 - (j + 1)) + (1 + (j - c)) := by omega
    rw [e, Nat.add_mul, Nat.pow_succ, Nat.add_mul, Nat.one_mul]
    have h9 : 0 ≤ (j - c) * (8 ^ n * 8) := Nat.zero_le _
    omega
  rw [phi, Nat.sub_zero]
  cases rp with
  | nil => exact key 4
  | cons i rp =>
    rw [List.length_cons] at hr ⊢
    rw [phi, phi]
    have := key (4 - (rp.length + 1))
    rw [show 4 - (rp.length + 1) + 1 = 4 - rp.length by omega] at this
    omega
theorem dec_u {k : Nat} : u32 (k + 1) + -u32 1 = u32 k := by
  rw [← u32_add, Int32.add_assoc, show u32 1 + -u32 1 = u32 0 from by decide]
  exact Int32.add_zero _
