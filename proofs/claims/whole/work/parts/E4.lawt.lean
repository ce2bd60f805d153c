/-! THE LAW'S HELPER: it asks the class's term, and catches -/
abbrev cL_term : ByteArray := method_3_code
def yL_term : MethodName := ⟨R_law, "term", "(LInvariantWorks;III[J)I"⟩
def hh_T : List (Nat × Nat × Nat × Nat) := [(0, 12, 15, 13)]
def wsT : List Cond := Cond.codeWith yL_term cL_term 6 (some .int) hh_T :: tbG
theorem wsT_in : ∀ w ∈ [Cond.codeWith yL_term cL_term 6 (some .int) hh_T, .methodLink R_law 59 yL_term, .static yL_term, .initialized R_law, .methodLink R_law 7 (sm_y m_Works_term), .classLink R_law 13 NSE], w ∈ lw_tbl ∧ goodWord w = true := by decide +kernel
theorem wsT_good : GoodIn tbG (va_wsS R_law 59 yL_term wsT) := by
  have g : ∀ w, w ∈ lw_tbl ∧ goodWord w = true → w ∈ tbG ∧ ((w.onTables && w.keeps) = true ∨ ∃ ty, w = .arrayClass ty) := fun w h => ⟨List.mem_filter.mpr h, good_of_word h.2⟩
  intro w hw
  unfold va_wsS wsT at hw
  rcases List.mem_append.mp hw with hw | hw
  · rcases List.mem_cons.mp hw with rfl | hw
    · exact g _ (wsT_in _ (by decide))
    rcases List.mem_cons.mp hw with rfl | hw
    · exact g _ (wsT_in _ (by decide))
    rcases List.mem_cons.mp hw with rfl | hw
    · exact g _ (wsT_in (.initialized R_law) (by decide))
    · cases hw
  · rcases List.mem_cons.mp hw with rfl | hw
    · exact g _ (wsT_in _ (by decide))
    · exact ⟨hw, good_of_word (List.mem_filter.mp hw).2⟩
abbrev lt_e (qo : Nat) (cA : ClassId) (f : Nat → Int64) : Nat × va_E := (qo, .inl (cA, 1, .inr (.inl f)))
abbrev lt_ws (ad : Nat → Nat) (cl : Nat → ClassId) (h : cm_H) (qo : Nat) (cA : ClassId) (f : Nat → Int64) : va_W := sm_ws ad cl h ++ [lt_e qo cA f]
theorem lw_app {A : Nat → Prop} {s : State} {D : va_G} {q : Nat × va_E} {ad : Nat → Nat} {cl : Nat → ClassId} {h : cm_H} {H : Heap} {locs : List Loc} (S : lwS A s D [q] ad cl h H locs) : va_P D vwCl (sm_ws ad cl h ++ [q]) H ∧ va_D A (sm_ws ad cl h ++ [q]) := by
  obtain ⟨S1, S2, S3, S4, S5, S6, S7⟩ := S
  obtain ⟨a, b⟩ := S7 q List.mem_cons_self
  refine ⟨S1.app S6, S2.app ⟨fun i j p1 p2 h1 h2 _ => ?_, fun k q1 h1 => ?_⟩ fun i j p1 p2 h1 h2 => ?_⟩
  · have e1 : i = 0 := by
      rcases i with _ | i
      · rfl
      · simp at h1
    have e2 : j = 0 := by
      rcases j with _ | j
      · rfl
      · simp at h2
    rw [e1, e2]
  · have : q1 = q := by simpa using List.mem_of_getElem? h1
    rw [this]; exact a
  · have : p2 = q := by simpa using List.mem_of_getElem? h2
    rw [this]
    exact b _ (List.mem_of_getElem? h1)
theorem lw_split {A : Nat → Prop} {s : State} {D : va_G} {q : Nat × va_E} {ad : Nat → Nat} {cl : Nat → ClassId} {h : cm_H} {H : Heap} {locs : List Loc} (hP : va_P D vwCl (sm_ws ad cl h ++ [q]) H) (hD : va_D A (sm_ws ad cl h ++ [q])) (hS : va_S A s.heap H locs) (ok : sm_ok h) (ar : sm_ar s cl h) : lwS A s D [q] ad cl h H locs := by
  have lenq : (sm_ws ad cl h ++ [q])[(sm_ws ad cl h).length]? = some q := by simp
  have lo : ∀ k x, (sm_ws ad cl h)[k]? = some x → (sm_ws ad cl h ++ [q])[k]? = some x := fun k x hx => by
    have hk := (List.getElem?_eq_some_iff.mp hx).1
    rw [List.getElem?_append_left hk]; exact hx
  refine ⟨fun k x hx => hP k x (lo k x hx), ⟨fun i j p1 p2 h1 h2 e => hD.1 i j p1 p2 (lo i p1 h1) (lo j p2 h2) e, fun k x hx => hD.2 k x (lo k x hx)⟩, hS, ok, ar, fun k x hx => ?_, fun x hx => ?_⟩
  · have : x = q := by simpa using List.mem_of_getElem? hx
    rw [this]; exact hP _ _ lenq
  · have : x = q := by simpa using hx
    rw [this]
    refine ⟨hD.2 _ _ lenq, fun w hw e => ?_⟩
    obtain ⟨i, hi⟩ := List.getElem?_of_mem hw
    have := hD.1 i _ w q (lo i w hi) lenq e
    have hk := (List.getElem?_eq_some_iff.mp hi).1
    omega
def lt_Pc (D : va_G) (ad : Nat → Nat) (cl : Nat → ClassId) (h : cm_H) (x1 x2 x3 : Int) (qo : Nat) (cA : ClassId) (f : Nat → Int64) (sz : Nat) : Array Value → State → Prop := va_Pc [.ref (ad 1), .int (Int32.ofInt x1), .int (Int32.ofInt x2), .int (Int32.ofInt x3), .ref qo] (fun U => U.heap.size = sz ∧ va_P D vwCl (lt_ws ad cl h qo cA f) U.heap ∧ va_D (fun _ => True) (lt_ws ad cl h qo cA f) ∧ va_K D vwCl [(cA, .long)] U ∧ sm_ar U cl h ∧ (∀ w ∈ sm_nest, va_Nw w U) ∧ va_AO RX2 U ∧ va_AO RX5 U ∧ (Cond.arrayOver (.array .int)).before #[] U = true ∧ txP (va_A (lt_ws ad cl h qo cA f) sz) U U.heap)
def lt_Qr (D : va_G) (ad : Nat → Nat) (h : cm_H) (qo : Nat) (cA : ClassId) (f : Nat → Int64) (A : Nat → Prop) (t : State) : Prop := ∃ (ad' : Nat → Nat) (cl' : Nat → ClassId), sm_ok h ∧ va_P D vwCl (lt_ws ad' cl' h qo cA f) t.heap ∧ va_D A (lt_ws ad' cl' h qo cA f) ∧ sm_ar t cl' h ∧ ∀ a, a < ch_n h → ad' a = ad a
def lt_Qc (r : Int32) (D : va_G) (ad : Nat → Nat) (h : cm_H) (qo : Nat) (cA : ClassId) (f : Nat → Int64) (A : Nat → Prop) : Array Value → State → Outcome → State → Prop := fun _ st oc t => (oc = .returned (some (.int r)) ∧ lt_Qr D ad h qo cA f A t) ∧ va_F A st t
theorem lt_blind {D : va_G} {ad : Nat → Nat} {cl : Nat → ClassId} {h : cm_H} {x1 x2 x3 : Int} {qo : Nat} {cA : ClassId} {f : Nat → Int64} {sz : Nat} : FrameBlind (lt_Pc D ad cl h x1 x2 x3 qo cA f sz) := fun a U g mk q => by
  obtain ⟨q0, q1, q2, q3, q4, q5, q6, q7, q8, q9, q10⟩ := q
  have al : U.vm.Alike (U.calling g mk a).vm := Vm.Alike.refl U.vm
  exact ⟨q0, q1, q2, q3, va_K.moved al q4, sm_ar_moved al q5, nest_same (u := U) (U := U.calling g mk a) (show U.vm = _ from rfl) q6, va_AO.moved al q7, va_AO.moved al q8, aoa_moved al q9, txP_same (u := U) (U := U.calling g mk a) (show U.vm = _ from rfl) q10⟩
theorem dT_0 : decode cL_term 0 = .ok (.aload 4, 2) := by decide +kernel
theorem dT_2 : decode cL_term 2 = .ok (.iconst 0, 1) := by decide +kernel
theorem dT_3 : decode cL_term 3 = .ok (.aload_n 0, 1) := by decide +kernel
theorem dT_4 : decode cL_term 4 = .ok (.iload_n 1, 1) := by decide +kernel
theorem dT_5 : decode cL_term 5 = .ok (.iload_n 2, 1) := by decide +kernel
theorem dT_6 : decode cL_term 6 = .ok (.iload_n 3, 1) := by decide +kernel
theorem dT_7 : decode cL_term 7 = .ok (.invokevirtual 7, 3) := by decide +kernel
theorem dT_10 : decode cL_term 10 = .ok (.i2l, 1) := by decide +kernel
theorem dT_11 : decode cL_term 11 = .ok (.lastore, 1) := by decide +kernel
theorem dT_12 : decode cL_term 12 = .ok (.goto 7, 3) := by decide +kernel
theorem dT_15 : decode cL_term 15 = .ok (.astore 5, 2) := by decide +kernel
theorem dT_17 : decode cL_term 17 = .ok (.iconst 1, 1) := by decide +kernel
theorem dT_18 : decode cL_term 18 = .ok (.ireturn, 1) := by decide +kernel
theorem dT_19 : decode cL_term 19 = .ok (.iconst 0, 1) := by decide +kernel
theorem dT_20 : decode cL_term 20 = .ok (.ireturn, 1) := by decide +kernel
abbrev lt_rm (mc ms : Nat) : Room := { frames := 71, cells := mc, slots := ms, locals := 4600 }
set_option maxHeartbeats 4000000 in
set_option maxRecDepth 100000 in
theorem lt_metR (l : Launch) {D : va_G} {ad : Nat → Nat} {cl : Nat → ClassId} {h : cm_H} {x1 x2 x3 v : Int} {qo : Nat} {cA : ClassId} {f : Nat → Int64} {sz : Nat} (hok : sm_ok h) (hva : ∀ w ∈ [vR 11 1, vI x1, vI x2, vI x3], vok h w) (hM : sm_Met l 70 m_Works_term [vR 11 1, vI x1, vI x2, vI x3] h h (some (vI v))) : Met l yL_term wsT (lt_rm 0 0) (lt_Pc D ad cl h x1 x2 x3 qo cA f sz) (lt_Qc 0 D ad h qo cA (vp_updL f 0 (Int64.ofInt v)) (va_A (lt_ws ad cl h qo cA f) sz)) 0 0 (va_A (lt_ws ad cl h qo cA f) sz) := by
  refine va_MetW (cc := cL_term) (maxL := 6) (ret := some .int) (hh := hh_T) (by decide) rfl ?_
  intro p e s m args below meth c s₁ B hml hv
  obtain ⟨rfl, hsz, hP, hD0, hK, har, hnest, hG2, hG5, hI, hT⟩ := hv
  have hx := B.exec
  have hb := B.bytes
  have hr := B.returns
  have hts0 := atoms_spec (ws := wsT) B.pre
  have hts : ∀ w ∈ tbG, w.before _ s = true := fun w hw => hts0 w (List.mem_cons_of_mem _ hw)
  have hown : s.vm.findClass R_law = some m.cls := findClass_of_methodNamed B.named
  subst hsz
  have hD := hD0.self (sz := s.heap.size)
  generalize hAe : va_A (lt_ws ad cl h qo cA f) s.heap.size = A at hD ⊢
  have hA : ∀ q : Nat, s.heap.size ≤ q → A q := fun q z => by rw [← hAe]; exact Or.inr z
  have hl := lv_entry ([.ref (ad 1), .int (Int32.ofInt x1), .int (Int32.ofInt x2), .int (Int32.ofInt x3), .ref qo]) (n := 6) (Nat.le_of_ble_eq_true rfl)
  rw [lg_entry_eq]
  generalize (lg_sl ([.ref (ad 1), .int (Int32.ofInt x1), .int (Int32.ofInt x2), .int (Int32.ofInt x3), .ref qo]) ++ List.replicate (6 - (lg_sl ([.ref (ad 1), .int (Int32.ofInt x1), .int (Int32.ofInt x2), .int (Int32.ofInt x3), .ref qo])).length) Slot.unset).toArray = ls at hl ⊢
  have hl : lv_has ls 6 [(0, .ref (ad 1)), (1, .int (Int32.ofInt x1)), (2, .int (Int32.ofInt x2)), (3, .int (Int32.ofInt x3)), (4, .ref qo)] := hl
  have hK0 : va_K D vwCl [] s := hK.sub [] rfl
  have S : lwS A s D [lt_e qo cA f] ad cl h s.heap [] := lw_split hP hD va_S.rf hok har
  refine lv_aload hx hb dT_0 (lv_at hl 4 rfl) ?_
  refine lv_iconst (v := 0) hx hb dT_2 (by decide) ?_
  refine lv_aload_n hx hb dT_3 rfl (lv_at hl 0 rfl) ?_
  refine lv_iload_n hx hb dT_4 rfl (lv_at hl 1 rfl) ?_
  refine lv_iload_n hx hb dT_5 rfl (lv_at hl 2 rfl) ?_
  refine lv_iload_n hx hb dT_6 rfl (lv_at hl 3 rfl) ?_
  refine lw_callV (rest := [.int 0, .ref qo]) (as2 := [vI x1, vI x2, vI x3]) (k2 := m_Works_term) (a := 1) (R := (headSpec wsT (lt_rm 0 0)).room) (nL := 6) (cc := cL_term) ⟨by show 71 ≤ 71; decide, by show 4520 ≤ 4600; decide⟩ hA hx hb hml hown hts ⟨hK0, hnest, hG2, hG5, hI⟩ S hM (by decide) (by decide +kernel) (by decide +kernel) (by decide +kernel) (by decide) hva (show 3 = sm_na m_Works_term by decide +kernel) (List.mem_filter.mpr (wsT_in _ (by decide))) hl.1 (show 1 + (1 + 0) ≤ 8 by decide) dT_7 ⟨?_, ?_⟩ ?_
  · show 0 + (ch_c h - ch_c h) ≤ 0
    omega
  · show 0 + (ch_s h - ch_s h) ≤ 0
    omega
  intro ad' cl' H1 locs1 S1 hex _ hvv
  refine W.widen (k := 0) (n := 0) (by omega) (by omega) ?_
  have cv : cm_i v := hvv (vI v) rfl
  refine lv_i2l (v := Int64.ofInt v) hx hb dT_10 (i3_i2l cv) ?_
  obtain ⟨hP1, hD1⟩ := lw_app S1
  refine va_last (q0 := (sm_ws ad' cl' h).length) (t0 := 0) (n := 1) (f := f) (cA := cA) hx hb hK hP1 hD1 S1.2.2.1 (by simp) rfl (by unfold vp_in; decide) dT_11 (fun H2 locs2 hP2 hD2 hS2 => ?_)
  have es : (sm_ws ad' cl' h ++ [lt_e qo cA f]).set (sm_ws ad' cl' h).length (qo, .inl (cA, 1, .inr (.inl (vp_updL f (0 : Int32).toNatClampNeg (Int64.ofInt v))))) = lt_ws ad' cl' h qo cA (vp_updL f 0 (Int64.ofInt v)) := by
    rw [List.set_append_right _ _ (Nat.le_refl _), Nat.sub_self]
    rfl
  rw [es] at hP2 hD2
  refine lv_goto (tgt := 19) hx hb dT_12 (by decide) ?_
  refine lv_iconst (v := 0) hx hb dT_19 (by decide) ?_
  refine W.iret hx hb hr (fun t ht hW => ?_) hS2.2.2 dT_20
  exact ⟨⟨rfl, ad', cl', hok, by rw [ht]; exact hP2, hD2, sm_ar_moved hW.alike S1.2.2.2.2.1, fun a ha => (hex a ha).1⟩, hS2.F ht⟩
set_option maxHeartbeats 4000000 in
set_option maxRecDepth 100000 in
theorem lt_metX (l : Launch) (hlt : l.stackTraces = false) {D : va_G} {ad : Nat → Nat} {cl : Nat → ClassId} {h : cm_H} {x1 x2 x3 : Int} {qo : Nat} {cA : ClassId} {f : Nat → Int64} {sz : Nat} (hok : sm_ok h) (hva : ∀ w ∈ [vR 11 1, vI x1, vI x2, vI x3], vok h w) (q : cm_call 70 m_Works_term [vR 11 1, vI x1, vI x2, vI x3] h (cm_qe cm_exc (ch_thr h))) : Met l yL_term wsT (lt_rm 1 6) (lt_Pc D ad cl h x1 x2 x3 qo cA f sz) (lt_Qc 1 D ad h qo cA f (va_A (lt_ws ad cl h qo cA f) sz)) 1 6 (va_A (lt_ws ad cl h qo cA f) sz) := by
  refine va_MetW (cc := cL_term) (maxL := 6) (ret := some .int) (hh := hh_T) (by decide) rfl ?_
  intro p e s m args below meth c s₁ B hml hv
  obtain ⟨rfl, hsz, hP, hD0, hK, har, hnest, hG2, hG5, hI, hT⟩ := hv
  have hx := B.exec
  have hb := B.bytes
  have hr := B.returns
  have hts0 := atoms_spec (ws := wsT) B.pre
  have hts : ∀ w ∈ tbG, w.before _ s = true := fun w hw => hts0 w (List.mem_cons_of_mem _ hw)
  have hown : s.vm.findClass R_law = some m.cls := findClass_of_methodNamed B.named
  subst hsz
  have hD := hD0.self (sz := s.heap.size)
  generalize hAe : va_A (lt_ws ad cl h qo cA f) s.heap.size = A at hD ⊢
  have hA : ∀ q : Nat, s.heap.size ≤ q → A q := fun q z => by rw [← hAe]; exact Or.inr z
  have hl := lv_entry ([.ref (ad 1), .int (Int32.ofInt x1), .int (Int32.ofInt x2), .int (Int32.ofInt x3), .ref qo]) (n := 6) (Nat.le_of_ble_eq_true rfl)
  rw [lg_entry_eq]
  generalize (lg_sl ([.ref (ad 1), .int (Int32.ofInt x1), .int (Int32.ofInt x2), .int (Int32.ofInt x3), .ref qo]) ++ List.replicate (6 - (lg_sl ([.ref (ad 1), .int (Int32.ofInt x1), .int (Int32.ofInt x2), .int (Int32.ofInt x3), .ref qo])).length) Slot.unset).toArray = ls at hl ⊢
  have hl : lv_has ls 6 [(0, .ref (ad 1)), (1, .int (Int32.ofInt x1)), (2, .int (Int32.ofInt x2)), (3, .int (Int32.ofInt x3)), (4, .ref qo)] := hl
  have hK0 : va_K D vwCl [] s := hK.sub [] rfl
  have S : lwS A s D [lt_e qo cA f] ad cl h s.heap [] := lw_split hP hD va_S.rf hok har
  refine lv_aload hx hb dT_0 (lv_at hl 4 rfl) ?_
  refine lv_iconst (v := 0) hx hb dT_2 (by decide) ?_
  refine lv_aload_n hx hb dT_3 rfl (lv_at hl 0 rfl) ?_
  refine lv_iload_n hx hb dT_4 rfl (lv_at hl 1 rfl) ?_
  refine lv_iload_n hx hb dT_5 rfl (lv_at hl 2 rfl) ?_
  refine lv_iload_n hx hb dT_6 rfl (lv_at hl 3 rfl) ?_
  have hk : m_Works_term < 245 := by decide
  obtain ⟨t1, t2, t3, t4, t5, t6, t7, t8⟩ := tk_m hk
  have hG : lwG s D := ⟨hK0, hnest, hG2, hG5, hI⟩
  have hpre := lw_pre (as := [vR 11 1, vI x1, vI x2, vI x3]) hG S
  have hAin : ∀ q, va_A (sm_ws ad cl h) s.heap.size q → A q := va_A_in (A := A) S.2.1 S.2.2.1 hA
  have hini : (Cond.initialized (sm_y m_Works_term).cls).before (#[.ref (ad 1), .int (Int32.ofInt x1), .int (Int32.ofInt x2), .int (Int32.ofInt x3), .ref qo] : Array Value) s = true := by rw [t1]; exact hts _ (tk_x t2)
  obtain ⟨hna2, hT1⟩ := vok_in (hva _ List.mem_cons_self) (by decide : 0 < 1)
  have hgo : (sm_ws ad cl h)[1 - 1]? = some (ad 1, .inr (11, en_F ad h 11 1)) := by rw [sm_get (by decide) hna2, en_C_obj hT1 (by decide)]
  have hrc := va_recv hK0 S.1 (vw_at (by decide : 11 < 13)) hgo
  have hpv : PreV s s.heap (sm_cn 11) (ad 1) (tx_Pc D ad cl h [vR 11 1, vI x1, vI x2, vI x3] s.heap.size) ([vI x1, vI x2, vI x3].map (en_V ad)) := ⟨fun a U g mk q => ⟨sm_blind a U g mk q.1, txP_same (u := U) (U := U.calling g mk a) (show U.vm = _ from rfl) q.2⟩, hrc, fun U hU hW => ⟨hpre U hU hW, by rw [hU]; exact txP_warm hW (txP_narrow hT fun q z => by rw [hAe]; exact hAin q z)⟩⟩
  have hsel : (Cond.selects (sm_cn 11) (sm_y m_Works_term) (sm_y m_Works_term)).before (#[.ref (ad 1), .int (Int32.ofInt x1), .int (Int32.ofInt x2), .int (Int32.ofInt x3), .ref qo] : Array Value) s = true := hts _ (tk_sel hk (by decide +kernel) (by decide +kernel))
  have cc1 : ch_c (tx_h h) - ch_c h = 1 := by show ch_c h + 1 - ch_c h = 1; omega
  have cs1 : ch_s (tx_h h) - ch_s h = 6 := by show ch_s h + 6 - ch_s h = 6; omega
  have hrm : (sm_rm 70 h (tx_h h)).frames + 1 ≤ (headSpec wsT (lt_rm 1 6)).room.frames ∧ 8 + (cm_maxL m_Works_term + 11) + (sm_rm 70 h (tx_h h)).locals ≤ (headSpec wsT (lt_rm 1 6)).room.locals := by
    show 70 + 1 ≤ 71 ∧ 8 + (cm_maxL m_Works_term + 11) + 64 * 70 ≤ 4600
    omega
  have run := vx_runV (R := (headSpec wsT (lt_rm 1 6)).room) (meth := meth) (below := below) (e := e) (locs := []) (cells := 0) (slots := 0) (rest := [.int 0, .ref qo]) (g := F0 m 7 ls (([vI x1, vI x2, vI x3].map (en_V ad)).reverse ++ Value.ref (ad 1) :: [.int 0, .ref qo])) (n := sm_na m_Works_term) (bytes := sm_b m_Works_term) (maxL := cm_maxL m_Works_term) (ret := sm_rt m_Works_term) (C := sm_cn 11) (own := R_law) (Ts := tbG) (nL := 6) (cc := cL_term) ⟨hx, hb, hml, hown, hts⟩ (sm_termX l hlt (d := 69) (by decide) q D ad cl s.heap.size hok hva) ⟨callB_of (sm_na m_Works_term) hts (wd_good hk) rfl rfl rfl hini (hts _ (List.mem_filter.mpr (wsT_in _ (by decide)))) ⟨t4, t5, t6⟩ hrm, hts _ (tk_ins hk (by decide +kernel)), hsel⟩ hpv rfl (show 3 = sm_na m_Works_term by decide +kernel) hl.1 rfl (show 2 * 0 + (1 + (1 + 0)) ≤ 8 by decide) dT_7 ⟨by rw [cc1]; show 0 + 1 ≤ 1; decide, by rw [cs1]; show 0 + 6 ≤ 6; decide⟩
  have htab : c.exceptionTable.toList = tableOf hh_T := vx_table (x := yL_term) B (hts0 _ List.mem_cons_self)
  intro T hT0 X
  rcases run T hT0 X with ⟨v, st₀, t, T', L, h0, X', hL, e1, e2, hq, st⟩ | ⟨q, st₀, t, T', L, E, ce, h0, X', hL, e1, e2, ⟨rfl, hq, hF⟩, hce, hcv, hcl, st⟩
  · exact hq.elim
  · obtain ⟨k1, k2, k3⟩ := vx_keep h0 e1 S.2.2.1 (A1 := va_A (sm_ws ad cl h) s.heap.size) (fun q _ z => hAin q z) hAin hL hF
    obtain ⟨ad', cl', -, ok2, -, hP1, hD1, har1, hn1, hex1⟩ := hq
    have hvm : s.vm.Alike t.vm := by rw [← e2]; exact X'.warmed.alike
    have KK : vx_W p l e (headSpec wsT (lt_rm 1 6)).room s m #[.ref (ad 1), .int (Int32.ofInt x1), .int (Int32.ofInt x2), .int (Int32.ofInt x3), .ref qo] below meth c T'.heap ([] ++ L) (0 + (ch_c (tx_h h) - ch_c h)) (0 + (ch_s (tx_h h) - ch_s h)) (MQ below (lt_Qc 1 D ad h qo cA f A) #[.ref (ad 1), .int (Int32.ofInt x1), .int (Int32.ofInt x2), .int (Int32.ofInt x3), .ref qo] s 1 6 A) (F0 m 7 ls [.int 0, .ref qo]) q := by
      refine vx_catch (own := R_law) (name := NSE) (E := NSE) hown [] ⟨0, 12, 15, 13⟩ [] (by rw [htab]; rfl) (fun z hz => by cases hz) (by decide) (by decide) (hts _ (List.mem_filter.mpr (wsT_in _ (by decide)))) (va_Nw.use (txT _ (by rw [txB_eq]; simp)) (hT.1 (.castable NSE NSE) (by rw [txB_eq]; simp))) (by rw [e1]; exact hce) hcv hcl ?_
      rw [cc1, cs1]
      refine lv_astore (lv' := [(5, .ref q), (0, .ref (ad 1)), (1, .int (Int32.ofInt x1)), (2, .int (Int32.ofInt x2)), (3, .int (Int32.ofInt x3)), (4, .ref qo)]) hx hb dT_15 hl (by decide) rfl (fun ls2 hl2 => ?_)
      refine lv_iconst (v := 1) hx hb dT_17 (by decide) ?_
      refine W.iret hx hb hr (fun t9 ht9 hW9 => ?_) k3.2.2 dT_18
      have S2 : lwS A s D [lt_e qo cA f] ad' cl' h T'.heap ([] ++ L) := by
        obtain ⟨S1, S2, S3, S4, S5, S6, S7⟩ := S
        have nA : ∀ x ∈ [lt_e qo cA f], x.1 < s.heap.size → ¬ va_A (sm_ws ad cl h) s.heap.size x.1 := fun x hx hl z => by
          rcases z with ⟨i, ee, z⟩ | z
          · exact (S7 x hx).2 _ (List.mem_of_getElem? z) rfl
          · exact Nat.not_lt.mpr z hl
        have hlt : ∀ x ∈ [lt_e qo cA f], x.1 < s.heap.size := fun x hx => by
          obtain ⟨i, hi⟩ := List.getElem?_of_mem hx
          exact (S6 i x hi).lt
        refine ⟨by rw [e1]; exact hP1, hD1.weaken (fun _ x _ z => hAin x.1 z), k3, ok2, sm_ar_moved hvm.symm har1, S6.kept fun k x hx => k2 x.1 (hlt x (List.mem_of_getElem? hx)) (nA x (List.mem_of_getElem? hx) (hlt x (List.mem_of_getElem? hx))), fun x hx => ⟨(S7 x hx).1, fun w hw z => ?_⟩⟩
        obtain ⟨i, hi⟩ := List.getElem?_of_mem hw
        have := hD1.2 i w hi
        rw [z] at this
        exact nA x hx (hlt x hx) this
      obtain ⟨hP2, hD2⟩ := lw_app S2
      exact ⟨⟨rfl, ad', cl', hok, by rw [ht9]; exact hP2, hD2, sm_ar_moved hW9.alike S2.2.2.2.2.1, fun a ha => (hex1 a ha).1⟩, k3.F ht9⟩
    obtain ⟨t2, a1, b1⟩ := KK T' rfl X'
    exact ⟨t2, st.trans a1, b1⟩
