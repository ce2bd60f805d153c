/-! THE LAW: the world it keeps, its calls -/
abbrev lwA (s : State) : Nat → Prop := fun q => s.heap.size ≤ q
def lwG (s : State) (D : va_G) : Prop := va_K D vwCl [] s ∧ (∀ w ∈ sm_nest, va_Nw w s) ∧ va_AO RX2 s ∧ va_AO RX5 s ∧ (Cond.arrayOver (.array .int)).before #[] s = true
def lwS (A : Nat → Prop) (s : State) (D : va_G) (ex : va_W) (ad : Nat → Nat) (cl : Nat → ClassId) (h : cm_H) (H : Heap) (locs : List Loc) : Prop := va_P D vwCl (sm_ws ad cl h) H ∧ va_D A (sm_ws ad cl h) ∧ va_S A s.heap H locs ∧ sm_ok h ∧ sm_ar s cl h ∧ va_P D vwCl ex H ∧ ∀ q ∈ ex, A q.1 ∧ ∀ w ∈ sm_ws ad cl h, w.1 ≠ q.1
theorem lw_pre {A : Nat → Prop} {s : State} {D : va_G} {ex : va_W} {ad : Nat → Nat} {cl : Nat → ClassId} {h : cm_H} {H : Heap} {locs : List Loc} {as : List cm_V} (hG : lwG s D) (S : lwS A s D ex ad cl h H locs) : ∀ U : State, U.heap = H → s.WarmedH U.vm → sm_Pc D ad cl h as H.size (as.map (en_V ad)).toArray U := by
  obtain ⟨hK, hnest, hG2, hG5, hI⟩ := hG
  intro U hU hW
  exact ⟨rfl, by rw [hU], by rw [hU]; exact S.1, S.2.1.weaken (fun _ _ _ _ => trivial), va_K.moved hW.alike hK, sm_ar_moved hW.alike S.2.2.2.2.1, nest_warm hW hnest, va_AO.moved hW.alike hG2, va_AO.moved hW.alike hG5, aoa_moved hW.alike hI⟩
section LWC
variable {p : Program} {l : Launch} {e : Env} {A : Nat → Prop} {R : Room} {s : State} {m : MethodId} {args : Array Value} {below : List Frame} {meth : Method} {c : Code} {Q : State → Prop} {D : va_G} {ex : va_W} {ad : Nat → Nat} {cl : Nat → ClassId} {h : cm_H} {H : Heap} {locs : List Loc} {cells slots : Nat} {ls : Array Slot} {rest : List Value}
/-- behind a call -/
theorem lw_cont {h2 : cm_H} {r2 : Option cm_V} {st0 : List Value} {arr : Array Value} {pc : Nat} (hA : ∀ q, s.heap.size ≤ q → A q) (S : lwS A s D ex ad cl h H locs)
    (hr : va_Run p l e R s m args below meth c H locs cells slots (ch_c h2 - ch_c h) (ch_s h2 - ch_s h) (F0 m pc ls st0) rest (sm_Qc D ad h h2 r2 (va_A (sm_ws ad cl h) H.size) arr) (va_A (sm_ws ad cl h) H.size))
    (K : ∀ (ad' : Nat → Nat) (cl' : Nat → ClassId) (H1 : Heap) (locs1 : List Loc), lwS A s D ex ad' cl' h2 H1 locs1 → (∀ a, a < ch_n h → ad' a = ad a ∧ ch_T h2 a = ch_T h a) → ch_n h ≤ ch_n h2 → (∀ x, r2 = some x → vok h2 x) → W p l e R s m args below meth c H1 locs1 (cells + (ch_c h2 - ch_c h)) (slots + (ch_s h2 - ch_s h)) Q (F0 m (pc + 3) ls ((r2.map (en_V ad')).toList ++ rest))) : W p l e R s m args below meth c H locs cells slots Q (F0 m pc ls st0) := by
  obtain ⟨S1, S2, S3, S4, S5, S6, S7⟩ := S
  have hAin := va_A_in (A := A) S2 S3 hA
  refine sm_run (A := A) (P := fun v t => sm_Qr D ad h h2 r2 (va_A (sm_ws ad cl h) H.size) v t ∧ ∀ q : Nat, q < H.size → ¬ va_A (sm_ws ad cl h) H.size q → t.heap[q]? = H[q]?) (A1 := va_A (sm_ws ad cl h) H.size) hr (fun st₀ v t9 e0 hq => ?_) S3 (fun q _ z => hAin q z) hAin (fun v t9 H1 locs1 ht hvm hP hS1 => ?_)
  · obtain ⟨⟨v2, ev, hq1⟩, hq2⟩ := hq
    cases ev
    refine ⟨⟨hq1, fun q a b => ?_⟩, hq2⟩
    rw [← e0]
    exact hq2.2 q (by rw [e0]; exact a) b
  · obtain ⟨⟨ad', cl', ev, ok2, vr, hP1, hD1, har, hn, hex⟩, hkp⟩ := hP
    rw [ht] at hP1 hkp
    have nA : ∀ q ∈ ex, q.1 < H.size → ¬ va_A (sm_ws ad cl h) H.size q.1 := fun q hq hl z => by
      rcases z with ⟨i, ee, z⟩ | z
      · exact (S7 q hq).2 _ (List.mem_of_getElem? z) rfl
      · exact Nat.not_lt.mpr z hl
    have hlt : ∀ q ∈ ex, q.1 < H.size := fun q hq => by
      obtain ⟨i, hi⟩ := List.getElem?_of_mem hq
      exact (S6 i q hi).lt
    rw [ev]
    refine K ad' cl' H1 locs1 ⟨hP1, hD1.weaken (fun _ q _ z => hAin q.1 z), hS1, ok2, sm_ar_moved hvm.symm har, S6.kept fun k x hx => hkp x.1 (hlt x (List.mem_of_getElem? hx)) (nA x (List.mem_of_getElem? hx) (hlt x (List.mem_of_getElem? hx))), fun q hq => ⟨(S7 q hq).1, fun w hw z => ?_⟩⟩ hex hn vr
    obtain ⟨i, hi⟩ := List.getElem?_of_mem hw
    have := hD1.2 i w hi
    rw [z] at this
    exact nA q hq (hlt q hq) this
theorem lw_callV {h2 : cm_H} {r2 : Option cm_V} {k2 a idx pc nL : Nat} {cc : ByteArray} {as2 : List cm_V} (hR : 71 ≤ R.frames ∧ 4520 ≤ R.locals) (hA : ∀ q, s.heap.size ≤ q → A q) (hx : p.tables.exec = Jvm.exec) (hb : c.code = cc) (hml : c.maxLocals = nL) (hown : s.vm.findClass R_law = some m.cls) (hts2 : ∀ w ∈ tbG, w.before args s = true) (hG : lwG s D) (S : lwS A s D ex ad cl h H locs) (hM : sm_Met l 70 k2 (.inr (.inl (sm_ow k2, a)) :: as2) h h2 r2) (hk : k2 < 245) (hs : sm_sta k2 = false) (hi : sm_isI k2 = false) (ho : sm_ow k2 < 13) (ha : 0 < a) (hva : ∀ v ∈ (.inr (.inl (sm_ow k2, a)) :: as2 : List cm_V), vok h v) (hna : as2.length = sm_na k2) (hlk : Cond.methodLink R_law idx (sm_y k2) ∈ tbG) (hsz : ls.size = nL) (hsum : (rest.map fun v => v.category).sum ≤ 8) (hd : decode cc pc = .ok (.invokevirtual idx, 3)) (hf : cells + (ch_c h2 - ch_c h) ≤ R.cells ∧ slots + (ch_s h2 - ch_s h) ≤ R.slots)
    (K : ∀ (ad' : Nat → Nat) (cl' : Nat → ClassId) (H1 : Heap) (locs1 : List Loc), lwS A s D ex ad' cl' h2 H1 locs1 → (∀ a, a < ch_n h → ad' a = ad a ∧ ch_T h2 a = ch_T h a) → ch_n h ≤ ch_n h2 → (∀ x, r2 = some x → vok h2 x) → W p l e R s m args below meth c H1 locs1 (cells + (ch_c h2 - ch_c h)) (slots + (ch_s h2 - ch_s h)) Q (F0 m (pc + 3) ls ((r2.map (en_V ad')).toList ++ rest))) : W p l e R s m args below meth c H locs cells slots Q (F0 m pc ls ((as2.map (en_V ad)).reverse ++ Value.ref (ad a) :: rest)) := by
  obtain ⟨t1, t2, t3, t4, t5, t6, t7, t8⟩ := tk_m hk
  have MM := hM D ad cl H.size S.2.2.2.1 hva
  have hpre := lw_pre (as := .inr (.inl (sm_ow k2, a)) :: as2) hG S
  have hrm : (sm_rm 70 h h2).frames + 1 ≤ R.frames ∧ 8 + (cm_maxL k2 + 11) + (sm_rm 70 h h2).locals ≤ R.locals := by
    show 70 + 1 ≤ R.frames ∧ 8 + (cm_maxL k2 + 11) + 64 * 70 ≤ R.locals
    omega
  have hini : (Cond.initialized (sm_y k2).cls).before args s = true := by rw [t1]; exact hts2 _ (tk_x t2)
  obtain ⟨hna2, hT⟩ := vok_in (hva _ List.mem_cons_self) ha
  have hgo : (sm_ws ad cl h)[a - 1]? = some (ad a, .inr (sm_ow k2, en_F ad h (sm_ow k2) a)) := by rw [sm_get ha hna2, en_C_obj hT ho]
  have hrc := va_recv hG.1 S.1 (vw_at ho) hgo
  have hargs : ((Sum.inr (Sum.inl (sm_ow k2, a)) :: as2).map (en_V ad)) = Value.ref (ad a) :: as2.map (en_V ad) := by rw [List.map_cons, en_ref ha]
  have hpv : PreV s H (sm_cn (sm_ow k2)) (ad a) (sm_Pc D ad cl h (Sum.inr (Sum.inl (sm_ow k2, a)) :: as2) H.size) (as2.map (en_V ad)) := ⟨sm_blind, hrc, fun U hU hW => by have := hpre U hU hW; rw [hargs] at this; exact this⟩
  have hsel : (Cond.selects (sm_cn (sm_ow k2)) (sm_y k2) (sm_y k2)).before args s = true := by have := hts2 _ (tk_sel hk hs hi); rw [t1] at this; exact this
  exact lw_cont hA S (arr := (Value.ref (ad a) :: as2.map (en_V ad)).toArray) (va_runV (n := sm_na k2) (bytes := sm_b k2) (maxL := cm_maxL k2) (ret := sm_rt k2) (C := sm_cn (sm_ow k2)) (own := R_law) (Ts := tbG) (nL := nL) ⟨hx, hb, hml, hown, hts2⟩ MM ⟨callB_of (sm_na k2) hts2 (wd_good hk) rfl rfl rfl hini (hts2 _ hlk) ⟨t4, t5, t6⟩ hrm, hts2 _ (tk_ins hk hs), hsel⟩ hpv rfl (by rw [List.length_map]; exact hna) hsz rfl (by show 2 * 0 + _ ≤ 8; omega) hd hf) K
theorem lw_callI {h2 : cm_H} {k2 a idx pc nL : Nat} {cc : ByteArray} (hR : 71 ≤ R.frames ∧ 4520 ≤ R.locals) (hA : ∀ q, s.heap.size ≤ q → A q) (hx : p.tables.exec = Jvm.exec) (hb : c.code = cc) (hml : c.maxLocals = nL) (hown : s.vm.findClass R_law = some m.cls) (hts2 : ∀ w ∈ tbG, w.before args s = true) (hG : lwG s D) (S : lwS A s D ex ad cl h H locs) (hM : sm_Met l 70 k2 [.inr (.inl (sm_ow k2, a))] h h2 none) (hk : k2 < 245) (hs : sm_sta k2 = false) (hi : sm_isI k2 = true) (hrt : sm_rt k2 = none) (ha : 0 < a) (hva : ∀ v ∈ ([.inr (.inl (sm_ow k2, a))] : List cm_V), vok h v) (hna : sm_na k2 = 0) (hlk : Cond.methodLink R_law idx (sm_y k2) ∈ tbG) (hsz : ls.size = nL) (hsum : (rest.map fun v => v.category).sum ≤ 8) (hd : decode cc pc = .ok (.invokespecial idx, 3)) (hf : cells + (ch_c h2 - ch_c h) ≤ R.cells ∧ slots + (ch_s h2 - ch_s h) ≤ R.slots)
    (K : ∀ (ad' : Nat → Nat) (cl' : Nat → ClassId) (H1 : Heap) (locs1 : List Loc), lwS A s D ex ad' cl' h2 H1 locs1 → (∀ a, a < ch_n h → ad' a = ad a ∧ ch_T h2 a = ch_T h a) → ch_n h ≤ ch_n h2 → W p l e R s m args below meth c H1 locs1 (cells + (ch_c h2 - ch_c h)) (slots + (ch_s h2 - ch_s h)) Q (F0 m (pc + 3) ls rest)) : W p l e R s m args below meth c H locs cells slots Q (F0 m pc ls (Value.ref (ad a) :: rest)) := by
  obtain ⟨t1, t2, t3, t4, t5, t6, t7, t8⟩ := tk_m hk
  have MM := hM D ad cl H.size S.2.2.2.1 hva
  have hpre := lw_pre (as := [.inr (.inl (sm_ow k2, a))]) hG S
  have hrm : (sm_rm 70 h h2).frames + 1 ≤ R.frames ∧ 8 + (cm_maxL k2 + 11) + (sm_rm 70 h h2).locals ≤ R.locals := by
    show 70 + 1 ≤ R.frames ∧ 8 + (cm_maxL k2 + 11) + 64 * 70 ≤ R.locals
    omega
  have hini : (Cond.initialized (sm_y k2).cls).before args s = true := by rw [t1]; exact hts2 _ (tk_x t2)
  have hargs : ([Sum.inr (Sum.inl (sm_ow k2, a))].map (en_V ad)) = [Value.ref (ad a)] := by rw [List.map_cons, en_ref ha]; rfl
  have hps : PreS s H (sm_Pc D ad cl h [Sum.inr (Sum.inl (sm_ow k2, a))] H.size) (.ref (ad a) :: ([] : List Value)) := ⟨sm_blind, fun U hU hW => by have := hpre U hU hW; rw [hargs] at this; exact this⟩
  have hwe : sm_wd k2 = Cond.code (sm_y k2) (sm_b k2) (cm_maxL k2) none :: tbG := by show Cond.code _ _ _ (sm_rt k2) :: tbG = _; rw [hrt]
  exact lw_cont hA S (arr := (Value.ref (ad a) :: ([] : List Value)).toArray) (va_runI (n := sm_na k2) (bytes := sm_b k2) (maxL := cm_maxL k2) (own := R_law) (Ts := tbG) (nL := nL) ⟨hx, hb, hml, hown, hts2⟩ MM ⟨callB_of (sm_na k2) hts2 (wd_good hk) hwe rfl rfl hini (hts2 _ hlk) ⟨t4, t5, t6⟩ hrm, t7.mp hi, hts2 _ (tk_ins hk hs)⟩ hps rfl (by rw [hna]; rfl) hsz rfl (by show 2 * 0 + _ ≤ 8; omega) hd hf) (fun ad' cl' H1 locs1 S1 hex hn _ => K ad' cl' H1 locs1 S1 hex hn)
end LWC
