/-! CALLS on the machine -/
theorem aoa_moved {u U : State} (hvm : u.vm.Alike U.vm) (h : (Cond.arrayOver (.array .int)).before #[] u = true) : (Cond.arrayOver (.array .int)).before #[] U = true := by
  unfold Cond.before Cond.holds at h ⊢
  simp only [Cond.value] at h ⊢
  have hidx : ∀ comp : ClassId, (U.vm.classes.findIdx? fun (x : Class) => match x.kind with | .array component _ => component == comp | _ => false) = (u.vm.classes.findIdx? fun (x : Class) => match x.kind with | .array component _ => component == comp | _ => false) := by
    intro comp
    have e1 := va_idx_bare U.vm comp
    have e2 := va_idx_bare u.vm comp
    have e3 : U.vm.bare = u.vm.bare := by first | exact hvm.bare_eq | exact hvm.bare_eq.symm
    rw [e3] at e1
    exact e1.symm.trans e2
  rw [hvm.findClass]
  cases hc : u.vm.findClass (FieldType.array .int).toString with
  | none => rw [hc] at h; simp at h
  | some comp =>
    rw [hc] at h
    simp only [Option.bind_some] at h ⊢
    cases hio : (u.vm.classes.findIdx? fun (x : Class) => match x.kind with | .array component _ => component == comp | _ => false) with
    | none =>
      erw [hio] at h
      simp at h
    | some ci =>
      have hio2 := (hidx comp).trans hio
      erw [hio] at h
      erw [hio2]
      simp only [Option.bind_some] at h ⊢
      cases hk : u.vm.classes[ci]? with
      | none => rw [hk] at h; simp at h
      | some kk =>
        rw [hk] at h
        obtain ⟨k', hk', he⟩ := hvm.2.2 _ _ hk
        rw [hk']
        simp only [Option.map_some] at h ⊢
        rw [he, hvm.findClass]
        exact h
def sm_Pc (D : va_G) (ad : Nat → Nat) (cl : Nat → ClassId) (h : cm_H) (as : List cm_V) (sz : Nat) : Array Value → State → Prop := va_Pc (as.map (en_V ad)) (fun U => U.heap.size = sz ∧ va_P D vwCl (sm_ws ad cl h) U.heap ∧ va_D (fun _ => True) (sm_ws ad cl h) ∧ va_K D vwCl [] U ∧ sm_ar U cl h ∧ (∀ w ∈ sm_nest, va_Nw w U) ∧ va_AO RX2 U ∧ va_AO RX5 U ∧ (Cond.arrayOver (.array .int)).before #[] U = true)
def sm_Qr (D : va_G) (ad0 : Nat → Nat) (h0 hF : cm_H) (r : Option cm_V) (A : Nat → Prop) (v : Option Value) (t : State) : Prop := ∃ (ad : Nat → Nat) (cl : Nat → ClassId), v = r.map (en_V ad) ∧ sm_ok hF ∧ (∀ x, r = some x → vok hF x) ∧ va_P D vwCl (sm_ws ad cl hF) t.heap ∧ va_D A (sm_ws ad cl hF) ∧ sm_ar t cl hF ∧ ch_n h0 ≤ ch_n hF ∧ ∀ a, a < ch_n h0 → ad a = ad0 a ∧ ch_T hF a = ch_T h0 a
def sm_Qc (D : va_G) (ad0 : Nat → Nat) (h0 hF : cm_H) (r : Option cm_V) (A : Nat → Prop) : Array Value → State → Outcome → State → Prop := fun _ st oc t => (∃ v, oc = .returned v ∧ sm_Qr D ad0 h0 hF r A v t) ∧ va_F A st t
abbrev sm_rm (d : Nat) (h hF : cm_H) : Room := { frames := d, cells := ch_c hF - ch_c h, slots := ch_s hF - ch_s h, locals := 64 * d }
abbrev sm_wd (k : Nat) : List Cond := Cond.code (sm_y k) (sm_b k) (cm_maxL k) (sm_rt k) :: tbG
/-- A METHOD'S CONTRACT: it answers r, the clean heap becomes hF -/
def sm_Met (l : Launch) (d k : Nat) (as : List cm_V) (h hF : cm_H) (r : Option cm_V) : Prop := ∀ (D : va_G) (ad : Nat → Nat) (cl : Nat → ClassId) (sz : Nat), sm_ok h → (∀ v ∈ as, vok h v) → Met l (sm_y k) (sm_wd k) (sm_rm d h hF) (sm_Pc D ad cl h as sz) (sm_Qc D ad h hF r (va_A (sm_ws ad cl h) sz)) (ch_c hF - ch_c h) (ch_s hF - ch_s h) (va_A (sm_ws ad cl h) sz)
theorem nest_same {u U : State} (h : u.vm = U.vm) (hn : ∀ w ∈ sm_nest, va_Nw w u) : ∀ w ∈ sm_nest, va_Nw w U := fun w hw => by
  have := hn w hw
  rcases List.mem_append.mp hw with q | q
  · obtain ⟨e, -, rfl⟩ := List.mem_map.mp q
    exact va_Nw.same rfl h this
  · obtain ⟨e, -, rfl⟩ := List.mem_map.mp q
    exact va_Nw.same rfl h this
theorem nest_warm {s U : State} (hW : s.WarmedH U.vm) (hn : ∀ w ∈ sm_nest, va_Nw w s) : ∀ w ∈ sm_nest, va_Nw w U := fun w hw => by
  have := hn w hw
  rcases List.mem_append.mp hw with q | q
  · obtain ⟨e, -, rfl⟩ := List.mem_map.mp q
    exact va_Nw.warmF hW this
  · obtain ⟨e, -, rfl⟩ := List.mem_map.mp q
    exact va_Nw.warmM hW this
theorem sm_ar_moved {u U : State} {cl : Nat → ClassId} {h : cm_H} (hvm : u.vm.Alike U.vm) (H : sm_ar u cl h) : sm_ar U cl h := fun a h0 hn hT => ⟨arrOfT_moved hvm (H a h0 hn hT).1, (H a h0 hn hT).2.moved hvm⟩
theorem sm_blind {D : va_G} {ad : Nat → Nat} {cl : Nat → ClassId} {h : cm_H} {as : List cm_V} {sz : Nat} : FrameBlind (sm_Pc D ad cl h as sz) := fun a U g mk q => by
  obtain ⟨q0, q1, q2, q3, q4, q5, q6, q7, q8, q9⟩ := q
  have al : U.vm.Alike (U.calling g mk a).vm := Vm.Alike.refl U.vm
  exact ⟨q0, q1, q2, q3, va_K.moved al q4, sm_ar_moved al q5, nest_same (u := U) (U := U.calling g mk a) (show U.vm = _ from rfl) q6, va_AO.moved al q7, va_AO.moved al q8, aoa_moved al q9⟩
section SCL
variable {p : Program} {l : Launch} {e : Env} {R : Room} {s : State} {m : MethodId} {args : Array Value} {below : List Frame} {meth : Method} {c : Code} {k : Nat} {D : va_G} {A : Nat → Prop} {ad0 : Nat → Nat} {h0 hF : cm_H} {Fin : State → Prop} {d : Nat}
variable {pc nx : Nat} {ls : cm_L} {st t : List cm_V} {h : cm_H}
theorem sm_run {H : Heap} {locs : List Loc} {cells slots mc ms : Nat} {ls' : Array Slot} {st0 rest : List Value} {Qa : State → Outcome → State → Prop} {free A1 : Nat → Prop} {P : Option Value → State → Prop} (hr : va_Run p l e R s m args below meth c H locs cells slots mc ms (F0 m pc ls' st0) rest Qa free) (hQ : ∀ (st₀ : State) (v : Option Value) (t : State), st₀.heap = H → Qa st₀ (.returned v) t → P v t ∧ va_F A1 st₀ t) (hS : va_S A s.heap H locs) (hA : ∀ q, q < H.size → A1 q → A q) (hf : ∀ q, free q → A q)
    (kk : ∀ (v : Option Value) (t : State) (H1 : Heap) (locs1 : List Loc), t.heap = H1 → s.vm.Alike t.vm → P v t → va_S A s.heap H1 locs1 → W p l e R s m args below meth c H1 locs1 (cells + mc) (slots + ms) Fin (F0 m (pc + 3) ls' (v.toList ++ rest))) : W p l e R s m args below meth c H locs cells slots Fin (F0 m pc ls' st0) := by
  intro T hT X
  obtain ⟨v, st₀, t, T', L, h0, X', hL, e1, e2, hq, hgo⟩ := hr T hT X
  obtain ⟨hp, hz, hk⟩ := hQ st₀ v t h0 hq
  rw [h0] at hz hk
  have hS' : va_S A s.heap T'.heap (locs ++ L) := by
    refine ⟨Nat.le_trans hS.1 (by rw [e1]; exact hz), fun q q1 q2 => ?_, fun q hq => ?_⟩
    · rw [e1, hk q (Nat.lt_of_lt_of_le q1 hS.1) (fun z => q2 (hA q (Nat.lt_of_lt_of_le q1 hS.1) z))]
      exact hS.2.1 q q1 q2
    · rcases List.mem_append.mp hq with z | z
      · exact hS.2.2 q z
      · exact hf _ (hL q z)
  obtain ⟨t2, a1, b1⟩ := kk v t T'.heap (locs ++ L) e1.symm (by rw [← e2]; exact X'.warmed.alike) hp hS' T' rfl X'
  exact ⟨t2, hgo t2 a1, b1⟩
theorem va_A_in {ad : Nat → Nat} {cl : Nat → ClassId} {H : Heap} {locs : List Loc} (hD : va_D A (sm_ws ad cl h)) (hS : va_S A s.heap H locs) (hA : ∀ q, s.heap.size ≤ q → A q) : ∀ q, va_A (sm_ws ad cl h) H.size q → A q := by
  intro q hq
  rcases hq with ⟨i, ee, q1⟩ | q1
  · exact hD.2 i _ q1
  · exact hA q (Nat.le_trans hS.1 q1)
theorem vok_ext {h1 h2 : cm_H} {v : cm_V} (hn : ch_n h1 ≤ ch_n h2) (hT : ∀ a, a < ch_n h1 → ch_T h2 a = ch_T h1 a) (hv : vok h1 v) : vok h2 v := by
  rcases v with x | r | x
  · exact hv
  · rcases hv with q | ⟨q1, q2⟩
    · exact Or.inl q
    · exact Or.inr ⟨by omega, by rw [hT _ q1]; exact q2⟩
  · exact hv
theorem en_ext {h1 : cm_H} {ad ad' : Nat → Nat} {v : cm_V} (h1n : 1 ≤ ch_n h1) (he : ∀ a, a < ch_n h1 → ad' a = ad a) (hv : vok h1 v) : en_V ad' v = en_V ad v := by
  rcases v with x | r | x
  · rfl
  · show va_rf (en_R ad' r.2) = va_rf (en_R ad r.2)
    unfold en_R
    split
    · rfl
    · rename_i hne
      rcases hv with q | q
      · exact absurd q hne
      · rw [he _ q.1]
  · rfl
/-- a call's continuation -/
theorem sm_cont {h2 : cm_H} {r2 : Option cm_V} {ad : Nat → Nat} {cl : Nat → ClassId} {H : Heap} {locs : List Loc} {ls' : Array Slot} {st0 : List Value} {free : Nat → Prop} {arr : Array Value} (hA : ∀ q, s.heap.size ≤ q → A q) (S : sm_S s k D A ad0 h0 ad cl H locs ls' ls st h) (hvt : ∀ v ∈ t, vok h v) (hg : cm_ge h h2)
    (hfree : free = va_A (sm_ws ad cl h) H.size)
    (hr : va_Run p l e R s m args below meth c H locs (ch_c h - ch_c h0) (ch_s h - ch_s h0) (ch_c h2 - ch_c h) (ch_s h2 - ch_s h) (F0 m pc ls' st0) (t.map (en_V ad)) (sm_Qc D ad h h2 r2 (va_A (sm_ws ad cl h) H.size) arr) free)
    (K : sm_J p l e R s m args below meth c k D A ad0 h0 Fin (pc + 3) ls (cm_push r2 t) h2) : W p l e R s m args below meth c H locs (ch_c h - ch_c h0) (ch_s h - ch_s h0) Fin (F0 m pc ls' st0) := by
  subst hfree
  obtain ⟨S1, S2, S3, S4, S5, S6, S7, S8, S9, S10⟩ := S
  have hAin := va_A_in S2 S3 hA
  refine sm_run (P := sm_Qr D ad h h2 r2 (va_A (sm_ws ad cl h) H.size)) (A1 := va_A (sm_ws ad cl h) H.size) hr (fun st₀ v t9 _ hq => ?_) S3 (fun q _ z => hAin q z) hAin (fun v t9 H1 locs1 ht hvm hP hS1 => ?_)
  · obtain ⟨⟨v2, ev, hq1⟩, hq2⟩ := hq
    cases ev
    exact ⟨hq1, hq2⟩
  · obtain ⟨ad', cl', ev, ok2, vr, hP1, hD1, har, hn, hex⟩ := hP
    rw [ht] at hP1
    have e1 : ch_c h - ch_c h0 + (ch_c h2 - ch_c h) = ch_c h2 - ch_c h0 := by have := hg.1; have := S8.1; omega
    have e2 : ch_s h - ch_s h0 + (ch_s h2 - ch_s h) = ch_s h2 - ch_s h0 := by have := hg.2; have := S8.2; omega
    have hvv : ∀ v, vok h v → vok h2 v := fun v q => vok_ext hn (fun a z => (hex a z).2) q
    have hee : ∀ v, vok h v → en_V ad' v = en_V ad v := fun v q => en_ext S4.1 (fun a z => (hex a z).1) q
    have S' : sm_S s k D A ad0 h0 ad' cl' H1 locs1 ls' ls (cm_push r2 t) h2 := by
      refine ⟨hP1, hD1.weaken (fun _ q _ z => hAin q.1 z), hS1, ok2, sm_ar_moved hvm.symm har, lr_heap S6 hvv hee, ?_, S8.tr hg, by omega, fun a z => ?_⟩
      · cases r2 with
        | none => exact fun v q => hvv v (hvt v q)
        | some x => exact List.forall_mem_cons.mpr ⟨vr x rfl, fun v q => hvv v (hvt v q)⟩
      · have h1 := hex a (by omega)
        have h2 := S10 a z
        exact ⟨h1.1.trans h2.1, h1.2.trans h2.2⟩
    have G := K ad' cl' H1 locs1 ls' S'
    rw [e1, e2]
    have e3 : v.toList ++ t.map (en_V ad) = (cm_push r2 t).map (en_V ad') := by
      rw [ev]
      have e4 : t.map (en_V ad') = t.map (en_V ad) := List.map_congr_left (fun v q => hee v (hvt v q))
      cases r2 with
      | none => exact e4.symm
      | some x => show en_V ad' x :: t.map (en_V ad) = en_V ad' x :: t.map (en_V ad'); rw [e4]
    rw [e3]
    exact G
theorem wd_good {k2 : Nat} (hk2 : k2 < 245) : GoodIn tbG (sm_wd k2) := by
  intro w hw
  have hin : w ∈ tbG := by
    rcases List.mem_cons.mp hw with rfl | q
    · exact tk_code hk2
    · exact q
  exact ⟨hin, good_of_word (List.mem_filter.mp hin).2⟩
theorem tk_m {k2 : Nat} (hk2 : k2 < 245) : (sm_y k2).cls = sm_cn (sm_ow k2) ∧ sm_ow k2 < 14 ∧ plainName (sm_y k2).cls = true ∧ (sm_y k2).cls ≠ "java/lang/invoke/MethodHandle" ∧ (sm_y k2).cls ≠ "java/lang/invoke/VarHandle" ∧ (parseMethodDescriptor (sm_y k2).desc).map (fun d => d.parameters.length) = some (sm_na k2) ∧ (sm_isI k2 = true ↔ (sm_y k2).name = "<init>") ∧ cm_maxL k2 ≤ 14 := by
  have h := List.all_eq_true.mp tk_m_b k2 (List.mem_range.mpr hk2)
  simp only [Bool.and_eq_true, decide_eq_true_eq] at h
  obtain ⟨⟨⟨⟨⟨⟨⟨a1, a2⟩, a3⟩, a4⟩, a5⟩, a6⟩, a7⟩, a8⟩ := h
  exact ⟨a1, a2, a3, a4, a5, a6, a7, a8⟩
set_option maxRecDepth 100000 in
theorem tk_ow_b : (List.range 245).all (fun k => bif sm_sta k then Nat.beq (cm_ow k) 99 else (Nat.beq (cm_ow k) (sm_ow k) && Nat.blt (sm_ow k) 14)) = true := by decide +kernel
theorem recv_inv {m2 : Nat} {as : List cm_V} (hm2 : m2 < 245) (hs : sm_sta m2 = false) (h : cm_rk (cm_ow m2) as = true ∧ cm_rc (cm_ow m2) as) : ∃ a as2, as = .inr (.inl (sm_ow m2, a)) :: as2 ∧ 0 < a := by
  have q := List.all_eq_true.mp tk_ow_b m2 (List.mem_range.mpr hm2)
  rw [hs] at q
  simp only [cond_false, Bool.and_eq_true] at q
  have e1 := Nat.eq_of_beq_eq_true q.1
  have e2 : sm_ow m2 < 14 := Nat.le_of_ble_eq_true q.2
  rw [e1] at h
  obtain ⟨h1, h2⟩ := h
  unfold cm_rk at h1
  unfold cm_rc at h2
  have e3 : Nat.beq (sm_ow m2) 99 = false := by
    rw [Bool.eq_false_iff]
    intro z
    have := Nat.eq_of_beq_eq_true z
    omega
  rw [e3] at h1 h2
  dsimp only at h1 h2
  split at h1
  · rename_i c a r
    have e4 := Nat.eq_of_beq_eq_true h1
    subst e4
    exact ⟨a, r, rfl, h2⟩
  · cases h1
theorem sm_pre {ad : Nat → Nat} {cl : Nat → ClassId} {H : Heap} {locs : List Loc} {ls' : Array Slot} {as : List cm_V} (X : sm_X p R s m args meth c k D A h0 hF d) (S : sm_S s k D A ad0 h0 ad cl H locs ls' ls st h) : ∀ U : State, U.heap = H → s.WarmedH U.vm → sm_Pc D ad cl h as H.size (as.map (en_V ad)).toArray U := by
  obtain ⟨hx, hb, hml, hown, hts, -, -, -, hK, hnest, hG, hPc, hI, -⟩ := X
  intro U hU hW
  exact ⟨rfl, by rw [hU], by rw [hU]; exact S.1, S.2.1.weaken (fun _ _ _ _ => trivial), va_K.moved hW.alike hK, sm_ar_moved hW.alike S.2.2.2.2.1, nest_warm hW hnest, va_AO.moved hW.alike hG, va_AO.moved hW.alike hPc, aoa_moved hW.alike hI⟩
theorem so_call {m2 n : Nat} {as : List cm_V} {r2 : Option cm_V} {h2 : cm_H} (X : sm_X p R s m args meth c k D A h0 hF d) (ho : ok_I k pc (.invokeinterface m2 n) nx = true) (hlen : as.length = n) (hsum : cm_sum t ≤ 8) (hM : sm_Met l d m2 as h h2 r2) (hg : cm_ge h h2) (hg2 : cm_ge h2 hF) (hth : cm_rk (cm_ow m2) as = true ∧ cm_rc (cm_ow m2) as) (K : sm_J p l e R s m args below meth c k D A ad0 h0 Fin nx ls (cm_push r2 t) h2) : sm_J p l e R s m args below meth c k D A ad0 h0 Fin pc ls (as.reverse ++ t) h := by
  obtain ⟨raw, len, hd, rfl, hR⟩ := ok_I_inv ho
  intro ad cl H locs ls' S
  have X0 := X
  obtain ⟨hx, hb, hml, hown, hts, -, -, -, hK, hnest, hG, hPc, hI, hA, hk244, hRc, hRs, hRf, hRl⟩ := X
  have hva : ∀ v ∈ as, vok h v := fun v q => S.2.2.2.2.2.2.1 v (List.mem_append_left _ (List.mem_reverse.mpr q))
  have hvt : ∀ v ∈ t, vok h v := fun v q => S.2.2.2.2.2.2.1 v (List.mem_append_right _ q)
  dsimp only [ok_R] at hR
  rw [Bool.and_eq_true] at hR
  obtain ⟨hm2, hR⟩ := hR
  have hm2 : m2 < 245 := Nat.le_of_ble_eq_true hm2
  obtain ⟨t1, t2, t3, t4, t5, t6, t7, t8⟩ := tk_m hm2
  have MM := hM D ad cl H.size S.2.2.2.1 hva
  have hpre := sm_pre (as := as) X0 S
  have hsz := S.2.2.2.2.2.1.1.1
  have S8 := S.2.2.2.2.2.2.2.1
  have hf : ch_c h - ch_c h0 + (ch_c h2 - ch_c h) ≤ R.cells ∧ ch_s h - ch_s h0 + (ch_s h2 - ch_s h) ≤ R.slots := by
    rw [hRc, hRs]
    have := hg.1; have := hg.2; have := hg2.1; have := hg2.2; have := S8.1; have := S8.2
    omega
  have hrm : (sm_rm d h h2).frames + 1 ≤ R.frames ∧ 8 + (cm_maxL m2 + 11) + (sm_rm d h h2).locals ≤ R.locals := by
    rw [hRf, hRl]
    show d + 1 ≤ d + 1 ∧ 8 + (cm_maxL m2 + 11) + 64 * d ≤ 64 * (d + 1)
    omega
  have hW8 : 2 * (F0 m pc ls' ((as.reverse ++ t).map (en_V ad))).monitorRoom + ((t.map (en_V ad)).map fun v => v.category).sum ≤ 8 := by
    show 2 * 0 + _ ≤ 8
    rw [sum_en]; omega
  have hini : (Cond.initialized (sm_y m2).cls).before args s = true := by rw [t1]; exact hts _ (tk_x t2)
  have hfix : CallFix p m c (sm_b k) (cm_maxL k) s args tbG (sm_cn (sm_ow k)) := ⟨hx, hb, hml, hown, hts⟩
  have link : ∀ {idx : Nat}, ok_m (sm_ow k) idx m2 = true → Nat.blt idx 1000 = true → (Cond.methodLink (sm_cn (sm_ow k)) idx (sm_y m2)).before args s = true ∨ va_Nw (.methodLinkNest (sm_cn (sm_ow k)) idx (sm_y m2) RX11) s := by
    intro idx q1 q2
    unfold ok_m at q1
    rw [Bool.or_eq_true] at q1
    rcases q1 with q1 | q1
    · obtain ⟨z, hz, hz2⟩ := List.any_eq_true.mp q1
      rw [Bool.and_eq_true] at hz2
      obtain ⟨k1, k2⟩ := key_inv hz2.1 q2
      have k3 := Nat.eq_of_beq_eq_true hz2.2
      have hw := hts _ (lk_m hz)
      rw [k1, k2, k3] at hw
      exact Or.inl hw
    · obtain ⟨z, hz, hz2⟩ := List.any_eq_true.mp q1
      rw [Bool.and_eq_true] at hz2
      obtain ⟨k1, k2⟩ := key_inv hz2.1 q2
      have k3 := Nat.eq_of_beq_eq_true hz2.2
      have hw : va_Nw (.methodLinkNest (sm_cn (z.1 / 1000)) (z.1 % 1000) (sm_y z.2) RX11) s := hnest _ (List.mem_append_right _ (List.mem_map.mpr ⟨z, hz, rfl⟩))
      rw [k1, k2, k3] at hw
      exact Or.inr hw
  split at hR
  · -- invokevirtual
    simp only [Bool.and_eq_true, Bool.not_eq_true'] at hR
    obtain ⟨⟨⟨⟨⟨⟨r1, r2⟩, r3⟩, r4⟩, r5⟩, r6⟩, r7⟩ := hR
    have hl := Nat.eq_of_beq_eq_true r7
    subst hl
    have hn := Nat.eq_of_beq_eq_true r5
    obtain ⟨a, as2, rfl, ha⟩ := recv_inv hm2 r3 hth
    obtain ⟨hna, hT⟩ := vok_in (hva _ List.mem_cons_self) ha
    have r6 : sm_ow m2 < 13 := Nat.le_of_ble_eq_true r6
    have hgo : (sm_ws ad cl h)[a - 1]? = some (ad a, .inr (sm_ow m2, en_F ad h (sm_ow m2) a)) := by rw [sm_get ha hna, en_C_obj hT r6]
    have hrc := va_recv hK S.1 (vw_at r6) hgo
    have hstk : ((Sum.inr (Sum.inl (sm_ow m2, a)) :: as2).reverse ++ t).map (en_V ad) = (as2.map (en_V ad)).reverse ++ Value.ref (ad a) :: t.map (en_V ad) := by
      rw [List.reverse_cons, List.append_assoc, List.map_append, List.map_reverse, List.singleton_append, List.map_cons, en_ref ha]
    have hargs : ((Sum.inr (Sum.inl (sm_ow m2, a)) :: as2).map (en_V ad)) = Value.ref (ad a) :: as2.map (en_V ad) := by rw [List.map_cons, en_ref ha]
    have hnn : (as2.map (en_V ad)).length = sm_na m2 := by rw [List.length_map]; rw [List.length_cons] at hlen; omega
    have hpv : PreV s H (sm_cn (sm_ow m2)) (ad a) (sm_Pc D ad cl h (Sum.inr (Sum.inl (sm_ow m2, a)) :: as2) H.size) (as2.map (en_V ad)) := ⟨sm_blind, hrc, fun U hU hW => by have := hpre U hU hW; rw [hargs] at this; exact this⟩
    have hsel : (Cond.selects (sm_cn (sm_ow m2)) (sm_y m2) (sm_y m2)).before args s = true := by have := hts _ (tk_sel hm2 r3 r4); rw [t1] at this; exact this
    rcases link r1 r2 with q | q
    · refine sm_cont hA S hvt hg rfl (arr := (Value.ref (ad a) :: as2.map (en_V ad)).toArray) (va_runV (n := sm_na m2) (bytes := sm_b m2) (maxL := cm_maxL m2) (ret := sm_rt m2) (C := sm_cn (sm_ow m2)) hfix MM ⟨callB_of (sm_na m2) hts (wd_good hm2) rfl rfl rfl hini q ⟨t4, t5, t6⟩ hrm, hts _ (tk_ins hm2 r3), hsel⟩ hpv rfl hnn hsz hstk hW8 hd hf) K
    · refine sm_cont hA S hvt hg rfl (arr := (Value.ref (ad a) :: as2.map (en_V ad)).toArray) (va_runVN (n := sm_na m2) (bytes := sm_b m2) (maxL := cm_maxL m2) (ret := sm_rt m2) (C := sm_cn (sm_ow m2)) (host := RX11) hfix MM ⟨va_cnB (sm_na m2) hts (wd_good hm2) rfl rfl rfl q hini ⟨t4, t5, t6⟩ hrm, hts _ (tk_ins hm2 r3), hsel⟩ hpv rfl hnn hsz hstk hW8 hd hf) K
  · -- invokestatic
    simp only [Bool.and_eq_true] at hR
    obtain ⟨⟨⟨⟨r1, r2⟩, r3⟩, r5⟩, r7⟩ := hR
    have hl := Nat.eq_of_beq_eq_true r7
    subst hl
    have hn := Nat.eq_of_beq_eq_true r5
    have hstk : (as.reverse ++ t).map (en_V ad) = (as.map (en_V ad)).reverse ++ t.map (en_V ad) := by rw [List.map_append, List.map_reverse]
    have hnn : (as.map (en_V ad)).length = sm_na m2 := by rw [List.length_map]; omega
    have hps : PreS s H (sm_Pc D ad cl h as H.size) (as.map (en_V ad)) := ⟨sm_blind, hpre⟩
    rcases link r1 r2 with q | q
    · refine sm_cont hA S hvt hg rfl (arr := (as.map (en_V ad)).toArray) (va_runS (n := sm_na m2) (bytes := sm_b m2) (maxL := cm_maxL m2) (ret := sm_rt m2) hfix MM ⟨callB_of (sm_na m2) hts (wd_good hm2) rfl rfl rfl hini q ⟨t4, t5, t6⟩ hrm, hts _ (tk_sta hm2 r3)⟩ hps rfl hnn hsz hstk hW8 hd hf) K
    · refine sm_cont hA S hvt hg rfl (arr := (as.map (en_V ad)).toArray) (va_runSN (n := sm_na m2) (bytes := sm_b m2) (maxL := cm_maxL m2) (ret := sm_rt m2) (host := RX11) hfix MM ⟨va_cnB (sm_na m2) hts (wd_good hm2) rfl rfl rfl q hini ⟨t4, t5, t6⟩ hrm, hts _ (tk_sta hm2 r3), trivial⟩ hps rfl hnn hsz hstk hW8 hd hf) K
  · -- invokespecial
    simp only [Bool.and_eq_true, Bool.not_eq_true'] at hR
    obtain ⟨⟨⟨⟨⟨r1, r2⟩, r3⟩, r4⟩, r5⟩, r7⟩ := hR
    have hl := Nat.eq_of_beq_eq_true r7
    subst hl
    have hn := Nat.eq_of_beq_eq_true r5
    obtain ⟨a, as2, rfl, ha⟩ := recv_inv hm2 r3 hth
    have hstk : ((Sum.inr (Sum.inl (sm_ow m2, a)) :: as2).reverse ++ t).map (en_V ad) = (as2.map (en_V ad)).reverse ++ Value.ref (ad a) :: t.map (en_V ad) := by
      rw [List.reverse_cons, List.append_assoc, List.map_append, List.map_reverse, List.singleton_append, List.map_cons, en_ref ha]
    have hargs : ((Sum.inr (Sum.inl (sm_ow m2, a)) :: as2).map (en_V ad)) = Value.ref (ad a) :: as2.map (en_V ad) := by rw [List.map_cons, en_ref ha]
    have hnn : (as2.map (en_V ad)).length = sm_na m2 := by rw [List.length_map]; rw [List.length_cons] at hlen; omega
    have hps : PreS s H (sm_Pc D ad cl h (Sum.inr (Sum.inl (sm_ow m2, a)) :: as2) H.size) (.ref (ad a) :: as2.map (en_V ad)) := ⟨sm_blind, fun U hU hW => by have := hpre U hU hW; rw [hargs] at this; exact this⟩
    have hrt : sm_rt m2 = none := by
      have : (List.range 245).all (fun k => !sm_isI k || decide (sm_rt k = none)) = true := by decide +kernel
      have h2 := List.all_eq_true.mp this m2 (List.mem_range.mpr hm2)
      rw [r4] at h2
      simpa using h2
    have hwd := wd_good hm2
    have hwe : sm_wd m2 = Cond.code (sm_y m2) (sm_b m2) (cm_maxL m2) none :: tbG := by show Cond.code _ _ _ (sm_rt m2) :: tbG = _; rw [hrt]
    rcases link r1 r2 with q | q
    · refine sm_cont hA S hvt hg rfl (arr := (Value.ref (ad a) :: as2.map (en_V ad)).toArray) (va_runI (n := sm_na m2) (bytes := sm_b m2) (maxL := cm_maxL m2) hfix MM ⟨callB_of (sm_na m2) hts hwd hwe rfl rfl hini q ⟨t4, t5, t6⟩ hrm, t7.mp r4, hts _ (tk_ins hm2 r3)⟩ hps rfl hnn hsz hstk hW8 hd hf) K
    · refine sm_cont hA S hvt hg rfl (arr := (Value.ref (ad a) :: as2.map (en_V ad)).toArray) (va_runIN (n := sm_na m2) (bytes := sm_b m2) (maxL := cm_maxL m2) (host := RX11) hfix MM ⟨va_cnB (sm_na m2) hts hwd hwe rfl rfl q hini ⟨t4, t5, t6⟩ hrm, t7.mp r4, hts _ (tk_ins hm2 r3)⟩ hps rfl hnn hsz hstk hW8 hd hf) K
  · cases hR
end SCL
