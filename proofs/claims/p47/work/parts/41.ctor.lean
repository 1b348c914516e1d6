/-! contracts of constructors -/
def sm_rmc (k mc ms : Nat) : Room := { frames := k, cells := mc, slots := ms, locals := 40 * k }
def sm_KPc (D : va_G) (ca : Nat → ClassId) (ad0 : Nat → Nat) (sz : Nat) (as : List Value) (o0 : sm_AE) : Array Value → State → Prop := va_Pc (as.map (sm_tr ad0)) (fun U => U.heap.size = sz ∧ va_P D vwCl (sm_dconc ad0 ca [o0]) U.heap ∧ va_K D vwCl [] U ∧ sm_CA ca U ∧ (∀ z ∈ lw_tbl, sm_nest z = true → va_Nw z U) ∧ (∀ C, Cond.arrayOver (.object C) ∈ lw_tbl → va_AO C U))
def sm_KB (D : va_G) (ca : Nat → ClassId) (ad0 : Nat → Nat) (sz : Nat) (o0 : sm_AE) (Wf : List sm_AE) (tkf : List Nat) : (Nat → Nat) → State → Prop := fun ad t => va_P D vwCl (sm_dconc ad ca Wf) t.heap ∧ va_D (va_A (sm_dconc ad0 ca [o0]) sz) (sm_dconc ad ca Wf) ∧ va_K D vwCl (sm_ctys ca tkf) t
def sm_MK (M : sm_MI) (as : List Value) (o0 : sm_AE) (Wf : List sm_AE) (tkf : List Nat) (mc ms : Nat) : Prop := ∀ (l : Launch) (D : va_G) (ca : Nat → ClassId) (ad0 : Nat → Nat) (sz : Nat), Met l M.1 (sm_ws M) (sm_rmc M.2.2.2.2 mc ms) (sm_KPc D ca ad0 sz as o0) (va_Qv (fun (ad : Nat → Nat) => ∀ i, (i = 0 ∨ 900 ≤ i) → ad i = ad0 i) (sm_KB D ca ad0 sz o0 Wf tkf) (va_A (sm_dconc ad0 ca [o0]) sz)) mc ms (va_A (sm_dconc ad0 ca [o0]) sz)
theorem sm_CA_moved {ca : Nat → ClassId} {u U : State} (hvm : u.vm.Alike U.vm) (h : sm_CA ca u) : sm_CA ca U := fun t c hc => h t c (by rw [← hvm.findClass]; exact hc)
theorem sm_Kblind {D : va_G} {ca : Nat → ClassId} {ad0 : Nat → Nat} {sz : Nat} {as : List Value} {o0 : sm_AE} : FrameBlind (sm_KPc D ca ad0 sz as o0) := by
  intro a U g mk h
  obtain ⟨h1, h2, h3, h4, h5, h6, h7⟩ := h
  exact ⟨h1, h2, h3, va_K.moved (u := U) (U := U.calling g mk a) (Vm.Alike.refl U.vm) h4, sm_CA_moved (u := U) (U := U.calling g mk a) (Vm.Alike.refl U.vm) h5, fun z hz hn => va_Nw.same (sm_nest_on z hn) (rfl : U.vm = (U.calling g mk a).vm) (h6 z hz hn), fun C hC => va_AO.moved (u := U) (U := U.calling g mk a) (Vm.Alike.refl U.vm) (h7 C hC)⟩
set_option maxHeartbeats 4000000 in
theorem sm_MK_of {M : sm_MI} {as : List Value} {o0 : sm_AE} {Wf : List sm_AE} {tkf : List Nat} {mc ms : Nat} {L0 : List (Option Value)} (hy : plainName M.1.cls = true) (hr0 : M.2.2.2.1 = none) (hnm : M.1.name = "<init>") (hL : sm_ent as (M.2.2.1) = L0) (hlen : sm_len as ≤ M.2.2.1) (h : sm_Cn M (fun pc _ st => decode M.2.1 pc = .ok (.return_, 1) ∧ st = []) true Wf tkf mc ms 0 L0 [] [o0] [] 0 0) : sm_MK M as o0 Wf tkf mc ms := by
  intro l D ca ad0 sz
  refine Met.ofW (cc := M.2.1) (maxL := M.2.2.1) (ret := M.2.2.2.1) hy rfl ?_
  intro p e s m args below meth c s₁ B hml hv
  obtain ⟨rfl, hsz, hP, hK, hCA, hZ, hAO⟩ := hv
  subst hsz
  have hx := B.exec
  have hb := B.bytes
  have hr := B.returns
  have hts := atoms_spec (ws := sm_ws M) B.pre
  have hown : s.vm.findClass M.1.cls = some m.cls := findClass_of_methodNamed B.named
  have hlocks := B.notSynchronized
  have hin : meth.name = M.1.name := (name_of_methodNamed B.named B.method).1
  have hl := lv_entry (as.map (sm_tr ad0)) (n := M.2.2.1) (by rw [sm_len_sl]; exact hlen)
  rw [lg_entry_eq]
  generalize (lg_sl (as.map (sm_tr ad0)) ++ List.replicate (M.2.2.1 - (lg_sl (as.map (sm_tr ad0))).length) Slot.unset).toArray = ls at hl ⊢
  rw [← sm_ent_loc ad0 as M.2.2.1 0, hL] at hl
  have hD : va_D (va_A (sm_dconc ad0 ca [o0]) s.heap.size) (sm_dconc ad0 ca [o0]) := by
    refine ⟨fun i j x y hi hj _ => ?_, fun k q hk => va_A.in hk⟩
    have h1 := (List.getElem?_eq_some_iff.mp hi).1
    have h2 := (List.getElem?_eq_some_iff.mp hj).1
    rw [sm_dfrom_len] at h1 h2
    simp at h1 h2
    omega
  refine h p l e _ s m _ below meth c D ca (va_A (sm_dconc ad0 ca [o0]) s.heap.size) ad0 _ ⟨hx, hb, hml, hown, fun z hz => hts z (List.mem_cons_of_mem _ hz), hZ, fun q hq => Or.inr hq, hCA, fun q => hin.trans q, hAO, ⟨Nat.le_refl _, Nat.le_refl _, Nat.le_refl _, Nat.le_refl _⟩, ?_⟩ ad0 s.heap [] ls (fun _ _ => rfl) hP hD hK va_S.rf hl
  intro ad H locs ls2 pc L st hF hag hP2 hD2 hK2 hS2 hl2
  obtain ⟨hdg, rfl⟩ := hF
  refine W.vret hx hb (hr.trans hr0) (fun t ht hW => ⟨⟨ad, rfl, fun i hi => hag i (hi.elim (fun z => Or.inl ⟨rfl, z⟩) Or.inr), by rw [ht]; exact hP2, hD2, va_K.moved hW.alike hK2⟩, hS2.F ht⟩) hS2.2.2 hdg (hlocks := hlocks)
/-- the callee's addresses: its own cell, and one reference from outside -/
def sm_ad2 (ad : Nat → Nat) (k x : Nat) : Nat → Nat := fun i => if i = 0 then ad k else ad x
/-- the caller's addresses behind the call -/
def sm_ad3 (ad adc : Nat → Nat) (k m x : Nat) : Nat → Nat := fun i => if k ≤ i ∧ i < k + m then adc (i - k) else if i = x then adc 900 else ad i
theorem sm_rangeA {α : Type} (A B : List α) : (List.range A.length).map (fun i => (A ++ B)[i]?) = A.map some := by
  apply List.ext_getElem?
  intro i
  by_cases hi : i < A.length
  · rw [List.getElem?_map, List.getElem?_map, List.getElem?_range hi]
    simp [List.getElem?_append_left hi, hi]
  · simp [hi]
theorem sn_ctor_room {R : Room} {k k2 n mc ms : Nat} (h1 : k ≤ R.frames) (h2 : 40 * k ≤ R.locals) (hk : k2 + 1 ≤ k) (hn : n ≤ 21) : (sm_rmc k2 mc ms).frames + 1 ≤ R.frames ∧ 8 + (n + 11) + (sm_rmc k2 mc ms).locals ≤ R.locals := by
  refine ⟨?_, ?_⟩
  · show k2 + 1 ≤ _
    omega
  · show 8 + (n + 11) + 40 * k2 ≤ _
    omega

set_option maxHeartbeats 4000000 in
theorem sn_call {M : sm_MI} {F : Nat → List (Option Value) → List Value → Prop} {b0 : Bool} {pc pc1 : Nat} {L : List (Option Value)} {Wf : List sm_AE} {tk tkf : List Nat} {nc ns nf sf : Nat} {M2 : sm_MI} {idx n mc ms m2 : Nat} {S : List Value} {Wp W2 : List sm_AE} {o0 o1 : sm_AE} {tk2 : List Nat} (k x : Nat) (as asc rest : List Value) (T : List sm_AE) (hst : S = asc.reverse ++ .ref k :: rest) (hk0 : Wp.length = k) (hd : sm_D M.2.1 pc 3 pc1 (.invokespecial idx)) (hlk : sm_ML M.1.cls idx M2.1) (hF : sm_MF M2 n) (hI : Cond.instanceMethod M2.1 ∈ lw_tbl) (hy1 : M2.1.name = "<init>") (hret : M2.2.2.2.1 = none) (hk : M2.2.2.2.2 + 1 ≤ M.2.2.2.2) (hnl : Nat.ble M2.2.2.1 21 = true) (hn : asc.length = n) (hcat : Nat.ble (rest.map fun v => v.category).sum 8 = true)
    (hM : sm_MK M2 (.ref 0 :: as) o0 W2 tk2 mc ms) (hA : ∀ ad : Nat → Nat, as.map (sm_tr (sm_ad2 ad k x)) = asc.map (sm_tr ad)) (ho : ∀ (ad : Nat → Nat) (ca : Nat → ClassId), sm_dcell (sm_ad2 ad k x) ca o0 = sm_dcell ad ca o1) (hm2 : W2.length = m2) (hT : ∀ (ad adc : Nat → Nat) (ca : Nat → ClassId), sm_dfrom (sm_ad3 ad adc k m2 x) ca k T = sm_dfrom adc ca 0 W2)
    (hnd : va_nd (List.range k) = true) (hx : x < k + 1 ∨ k + m2 ≤ x) (hm1 : Nat.blt 0 m2 = true) (hf1 : Wp.all (sm_nc (k + 1) (k + m2)) = true) (hf2 : L.all (sm_no (k + 1) (k + m2)) = true) (hf3 : rest.all (sm_nv (k + 1) (k + m2)) = true) (hf4 : Nat.ble (k + m2) 900 = true) (hcf : nc + mc ≤ nf ∧ ns + ms ≤ sf) (kk : sm_Cn M F b0 Wf tkf nf sf pc1 L rest (Wp ++ T) (tk ++ tk2) (nc + mc) (ns + ms)) : sm_Cn M F b0 Wf tkf nf sf pc L S (Wp ++ [o1]) tk nc ns := by
  intro p l e R s m args below meth c D ca A ad0 Q hO ad H locs ls hag hP hD hK hS hl
  subst hst
  subst hk0
  obtain ⟨hd, rfl⟩ := hd
  have hcat := Nat.le_of_ble_eq_true hcat
  have hnl := Nat.le_of_ble_eq_true hnl
  have hm1 : 0 < m2 := Nat.le_of_ble_eq_true hm1
  have hf4 := Nat.le_of_ble_eq_true hf4
  have hcw := sm_goodIn hF.1
  obtain ⟨ox, ob, oml, oown, ots, oZ, oA, oCA, onm, oAO, oR, -⟩ := id hO
  have hM2 := hM l D ca (sm_ad2 ad Wp.length x) H.size
  have hfix : CallFix p m c M.2.1 M.2.2.1 s args sm_good M.1.cls := ⟨ox, ob, oml, oown, ots⟩
  have hws : ∀ z ∈ sm_ws M2, ∀ (a2 : Array Value) (U : State), s.WarmedH U.vm → z.before a2 U = true := pay_in ots hcw
  have hwp : (sm_dconc ad ca Wp).length = Wp.length := sm_dfrom_len
  have happ : sm_dconc ad ca (Wp ++ [o1]) = sm_dconc ad ca Wp ++ [(ad Wp.length, sm_dcell ad ca o1)] := by
    show sm_dfrom ad ca 0 (Wp ++ [o1]) = _
    rw [sm_dfrom_app, Nat.zero_add]
    rfl
  have hwc : sm_dconc (sm_ad2 ad Wp.length x) ca [o0] = [(ad Wp.length, sm_dcell ad ca o1)] := by
    show [(sm_ad2 ad Wp.length x 0, sm_dcell (sm_ad2 ad Wp.length x) ca o0)] = _
    rw [ho]
    rfl
  have hC : [Wp.length].map (fun i => (sm_dconc ad ca (Wp ++ [o1]))[i]?) = (sm_dconc (sm_ad2 ad Wp.length x) ca [o0]).map some := by
    rw [hwc, happ]
    simp [hwp]
  have hR : (List.range Wp.length).map (fun i => (sm_dconc ad ca (Wp ++ [o1]))[i]?) = (sm_dconc ad ca Wp).map some := by
    rw [happ]
    have := sm_rangeA (sm_dconc ad ca Wp) [(ad Wp.length, sm_dcell ad ca o1)]
    rw [hwp] at this
    exact this
  have hP0 : va_P D vwCl (sm_dconc (sm_ad2 ad Wp.length x) ca [o0]) H := by
    rw [hwc]
    intro i q hi
    have h1 : i < 1 := (List.getElem?_eq_some_iff.mp hi).1
    have e : i = 0 := by omega
    subst e
    refine hP Wp.length q ?_
    rw [happ, List.getElem?_append_right (by omega), hwp, Nat.sub_self]
    exact hi
  have hFr : ∀ q, va_A (sm_dconc (sm_ad2 ad Wp.length x) ca [o0]) H.size q → A q := va_free hD hS oA [Wp.length] hC
  have hargs : ((.ref 0 :: as : List Value).map (sm_tr (sm_ad2 ad Wp.length x))) = .ref (ad Wp.length) :: asc.map (sm_tr ad) := by
    rw [List.map_cons, hA ad]
    rfl
  have hpre : PreS s H (sm_KPc D ca (sm_ad2 ad Wp.length x) H.size (.ref 0 :: as) o0) (.ref (ad Wp.length) :: asc.map (sm_tr ad)) := ⟨sm_Kblind, fun U hU hW => ⟨by rw [hargs], by rw [hU], by rw [hU]; exact hP0, va_K.moved hW.alike (hK.sub [] rfl), sm_CA_moved hW.alike oCA, sm_nestwarm hW oZ, fun C hC => va_AO.moved hW.alike (oAO C hC)⟩⟩
  have hst2 : ((asc.reverse ++ .ref Wp.length :: rest).map (sm_tr ad)) = (asc.map (sm_tr ad)).reverse ++ .ref (ad Wp.length) :: rest.map (sm_tr ad) := by
    rw [List.map_append, List.map_reverse]
    rfl
  have hct : ((rest.map (sm_tr ad)).map fun v => v.category).sum ≤ 8 := by
    rw [List.map_map]
    have e : (fun v : Value => v.category) ∘ sm_tr ad = fun v => v.category := by
      funext z
      exact sm_tr_cat ad z
    rw [e]
    exact hcat
  have hroom := sn_ctor_room (mc := mc) (ms := ms) oR.1 oR.2.1 hk hnl
  have hgo := sm_wgood ots (z := Cond.code M2.1 M2.2.1 M2.2.2.1 M2.2.2.2.1) hF.1 rfl
  have hini := sm_wgood ots (z := Cond.initialized M2.1.cls) hF.2.1 rfl
  have hins := sm_wgood ots (z := Cond.instanceMethod M2.1) hI rfl
  have hlen : (asc.map (sm_tr ad)).length = n := by rw [List.length_map]; exact hn
  rw [hret] at hgo
  have hcode : Cond.code M2.1 M2.2.1 M2.2.2.1 none ∈ sm_ws M2 := by
    unfold sm_ws
    rw [hret]
    exact List.mem_cons_self
  have hrun : va_Run p l e R s m args below meth c H locs nc ns mc ms (F0 m pc ls ((asc.reverse ++ .ref Wp.length :: rest).map (sm_tr ad))) (rest.map (sm_tr ad)) (va_Qv (fun (adc : Nat → Nat) => ∀ i, (i = 0 ∨ 900 ≤ i) → adc i = sm_ad2 ad Wp.length x i) (sm_KB D ca (sm_ad2 ad Wp.length x) H.size o0 W2 tk2) (va_A (sm_dconc (sm_ad2 ad Wp.length x) ca [o0]) H.size) (Value.ref (ad Wp.length) :: asc.map (sm_tr ad)).toArray) (va_A (sm_dconc (sm_ad2 ad Wp.length x) ca [o0]) H.size) := by
    rcases hlk with hlk | ⟨host, hlk⟩
    · exact va_runI (bytes := M2.2.1) (maxL := M2.2.2.1) (n := n) (index := idx) (b := ad Wp.length) (As := asc.map (sm_tr ad)) hfix hM2 ⟨⟨rfl, rfl, hroom.1, hroom.2, hws, hcode, hgo, hini, hF.2.2.1, sm_dlen hF.2.2.2, sm_wgood ots hlk rfl⟩, hy1, hins⟩ hpre rfl hlen hl.1 hst2 (lv_room hct) hd ⟨by omega, by omega⟩
    · exact va_runIN (bytes := M2.2.1) (maxL := M2.2.2.1) (n := n) (index := idx) (b := ad Wp.length) (As := asc.map (sm_tr ad)) hfix hM2 ⟨⟨⟨rfl, rfl, hroom.1, hroom.2, hws, hcode⟩, hgo, hini, hF.2.2.1, sm_dlen hF.2.2.2, va_Nw.use rfl (oZ _ hlk rfl)⟩, hy1, hins⟩ hpre rfl hlen hl.1 hst2 (lv_room hct) hd ⟨by omega, by omega⟩
  refine va_callv hrun hS (fun q _ h => hFr q h) hFr (fun adc t H1 locs1 ht hvm hw hB hz1 hk1 hS1 => ?_)
  obtain ⟨hP1, hD1, hK1⟩ := hB
  rw [ht] at hP1
  have hK1 := va_K.moved hvm.symm hK1
  obtain ⟨hPj, hDj⟩ := va_join hP hD [Wp.length] (List.range Wp.length) hC hR hnd (fun i hi => by simp at hi ⊢; omega) hk1 hFr hP1 hD1
  have e0 : adc 0 = ad Wp.length := hw 0 (Or.inl rfl)
  have e9 : adc 900 = ad x := hw 900 (Or.inr (Nat.le_refl _))
  have hne : ∀ i, ¬ (Wp.length + 1 ≤ i ∧ i < Wp.length + m2) → sm_ad3 ad adc Wp.length m2 x i = ad i := by
    intro i hi
    unfold sm_ad3
    by_cases h1 : Wp.length ≤ i ∧ i < Wp.length + m2
    · have e : i = Wp.length := by omega
      rw [if_pos h1, e, Nat.sub_self]
      exact e0
    · rw [if_neg h1]
      by_cases h2 : i = x
      · rw [if_pos h2, h2]; exact e9
      · rw [if_neg h2]
  have hWn : sm_dconc (sm_ad3 ad adc Wp.length m2 x) ca (Wp ++ T) = sm_dconc ad ca Wp ++ sm_dconc adc ca W2 := by
    show sm_dfrom (sm_ad3 ad adc Wp.length m2 x) ca 0 (Wp ++ T) = _
    rw [sm_dfrom_app, Nat.zero_add, hT, sm_nc_from hne hf1 (by omega)]
  have e3 : rest.map (sm_tr ad) = rest.map (sm_tr (sm_ad3 ad adc Wp.length m2 x)) := (sm_nv_st hne hf3).symm
  rw [e3]
  refine kk _ _ _ _ _ _ _ _ _ _ _ _ _ _ _ hO (sm_ad3 ad adc Wp.length m2 x) H1 locs1 ls (fun i hi => ?_) (by rw [hWn]; exact hPj) (by rw [hWn]; exact hDj) ?_ hS1 (by rw [sm_no_loc hne hf2]; exact hl)
  · rw [hne i (by rcases hi with ⟨-, hi⟩ | hi <;> omega)]
    exact hag i hi
  · unfold sm_ctys
    rw [List.map_append]
    exact hK.app hK1
