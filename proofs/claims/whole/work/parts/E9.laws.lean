/-! THE LAW, from its entry -/
def h00 : cm_H := (fun _ _ => 0, fun _ _ => 0, fun _ => 0, fun _ => 0, 1, 0, 0)
theorem h00_ok : sm_ok h00 := ⟨Nat.le_refl 1, fun _ _ => ⟨by show (-2147483648 : Int) ≤ 0; decide, by show (0 : Int) ≤ 2147483647; decide⟩, fun _ _ => (by show 0 < 1; decide), fun a a0 a1 => absurd (show a < 1 from a1) (by omega), fun _ => ⟨by show (0 : Int) ≤ 0; decide, by show (0 : Int) ≤ 1000000; decide⟩, fun a a0 a1 => absurd (show a < 1 from a1) (by omega), fun a a0 a1 => absurd (show a < 1 from a1) (by omega)⟩
theorem w_law : ∀ w ∈ [Cond.classLink R_law 8 (sm_cn 11), Cond.classLink R_law 16 (sm_cn 12), Cond.methodLink R_law 15 (sm_y m_Works_init), Cond.methodLink R_law 18 (sm_y m_Model_init), Cond.arrayClass .long], w ∈ lw_tbl ∧ goodWord w = true := by decide +kernel
theorem w_law2 : ∀ w ∈ [Cond.arrayOver (.object RX2), .arrayOver (.object RX5), .arrayOver (.array .int), .laysStatic Bundle.tN "UNASSIGNED_STACK" Bundle.steD, .laysStatic Bundle.tN "SUPPRESSED_SENTINEL" Bundle.listD, .initialized Bundle.tN, .stringRef RX11 224 "no such term"], w ∈ lw_tbl := by decide +kernel
theorem w_txB : ∀ w ∈ txB, w ∈ lw_tbl := by decide +kernel
theorem w_nestT : ∀ w ∈ sm_nest, w.onTables = true := by decide +kernel
theorem lw_G {s : State} {args : Array Value} (hts : ∀ w ∈ lw_tbl, w.before args s = true) : ∃ D, lwG s D := by
  have hts2 : ∀ w ∈ tbG, w.before args s = true := fun w q => hts w (List.mem_filter.mp q).1
  have h0 : ∀ k : Nat, ∃ q : ClassId × (Nat → Nat), k < 13 → u_Kn s (sm_cn k) (sm_T k) (sm_fn k) q.1 q.2 := by
    intro k
    by_cases hk : k < 13
    · obtain ⟨c, iS, h⟩ := u_known (C := sm_cn k) (T := sm_T k) (N := sm_fn k) (n := sm_fn k) hts2 (tk_f hk) (hts2 _ (tk_n hk))
      exact ⟨(c, iS), fun _ => h⟩
    · exact ⟨(0, fun _ => 0), fun h => absurd h hk⟩
  obtain ⟨g, hg⟩ := Classical.axiomOfChoice h0
  refine ⟨(fun k => (g k).1, fun k => (g k).2), ⟨fun k q hq => ?_, fun k q h => by simp at h⟩, fun w hw => va_Nw.of (w_nestT w hw) (hts w (sm_nest_in w hw)), va_AO.of (hts _ (w_law2 _ (List.mem_of_getElem? (i := 0) rfl))), va_AO.of (hts _ (w_law2 _ (List.mem_of_getElem? (i := 1) rfl))), hts _ (w_law2 _ (List.mem_of_getElem? (i := 2) rfl))⟩
  have hk : k < 13 := by
    have := (List.getElem?_eq_some_iff.mp hq).1
    exact this
  rw [vw_at hk] at hq
  have e := Option.some.inj hq
  rw [← e]
  exact hg k hk
theorem lw_T {s : State} {b : Nat} (hts : ∀ w ∈ lw_tbl, w.before #[Value.ref b] s = true) (hgv : (Jvm.Cond.and given_1 narrow_1).before #[Value.ref b] s = true) : txP (lwA s) s s.heap := by
  have hs := flat_of_before _ hgv
  have hA : ∀ a : Nat, a < s.heap.size → ¬ lwA s a := fun a h q => Nat.not_lt.mpr q h
  have i1 : (Cond.isRef (.static Bundle.tN "UNASSIGNED_STACK" Bundle.steD)).before #[Value.ref b] s = true := hs _ (by decide +kernel)
  have i2 : (Cond.isRef (.static Bundle.tN "SUPPRESSED_SENTINEL" Bundle.listD)).before #[Value.ref b] s = true := hs _ (by decide +kernel)
  have i3 : (Cond.exactly (.string RX11 224) "java/lang/String").before #[Value.ref b] s = true := hs _ (by decide +kernel)
  obtain ⟨a, c, cA, kA, q1, -⟩ := Cond.exactly_spec (args := #[Value.ref b]) (first := s) (o := none) (s := s) (idx := []) (t := .string RX11 224) (cls := "java/lang/String") i3
  exact ⟨fun w hw => va_Nw.of (txT w hw) (hts w (w_txB w hw)), vx_Zqof (hts _ (w_law2 _ (List.mem_of_getElem? (i := 3) rfl))) (hts _ (w_law2 _ (List.mem_of_getElem? (i := 5) rfl))) i1 hA, vx_Zqof (hts _ (w_law2 _ (List.mem_of_getElem? (i := 4) rfl))) (hts _ (w_law2 _ (List.mem_of_getElem? (i := 5) rfl))) i2 hA, a, vk_R.of (hts _ (w_law2 _ (List.mem_of_getElem? (i := 6) rfl))) q1⟩
theorem lw_flags {l : Launch} (hf : l.flags = flags0) : l.stackTraces = false := by
  unfold Launch.stackTraces
  rw [hf]
  decide
theorem call_leaf {d k : Nat} {as : List cm_V} {h : cm_H} {Q : cm_Q} (H : cm_call d k as h Q) : ∃ r g, Q r g ∧ cm_ge h g ∧ cm_call d k as h (cm_qe r g) := by
  obtain ⟨r, g, a, b, e⟩ := cm_call_nice d _ _ _ _ H
  exact ⟨r, g, a, b, e _ ⟨rfl, rfl⟩⟩
set_option maxHeartbeats 4000000 in
set_option maxRecDepth 100000 in
theorem whole_start {p : Program} {e : Env} {s : State} {m : MethodId} {below : List Frame} {meth : Method} {c : Code} (l : Launch) (hflags : l.flags = flags0) {b L : Nat} {xs : Nat → Int32} (hL : L ≤ 3584) (C0 : lw_At p s m meth c b L xs) : W p l e room_1 s m #[Value.ref b] below meth c s.heap [] 0 0 (lw_Z below #[Value.ref b] s) (entryFrame m ([Value.ref b] : List Value).toArray 7) := by
  obtain ⟨hx, hb, hr, hml, hown, hts, hX, hbl, hlocks, hgv⟩ := C0
  have hts2 : ∀ w ∈ tbG, w.before #[Value.ref b] s = true := fun w q => hts w (List.mem_filter.mp q).1
  have wl : ∀ w, w ∈ lw_tbl ∧ goodWord w = true → w ∈ tbG := fun w h => List.mem_filter.mpr h
  obtain ⟨D, hG⟩ := lw_G hts
  have hT := lw_T hts hgv
  have hst := lw_flags hflags
  have hl := lv_entry ([.ref b]) (n := 7) (Nat.le_of_ble_eq_true rfl)
  rw [lg_entry_eq]
  generalize (lg_sl ([.ref b]) ++ List.replicate (7 - (lg_sl ([.ref b])).length) Slot.unset).toArray = ls at hl ⊢
  have hl : lv_has ls 7 [(0, .ref b)] := hl
  have S0 : lwS (lwA s) s D [] (fun _ => 0) (fun _ => 0) h00 s.heap [] := ⟨fun k q h => by simp [sm_ws, h00, ch_n] at h, ⟨fun i j p q h => by simp [sm_ws, h00, ch_n] at h, fun k q h => by simp [sm_ws, h00, ch_n] at h⟩, va_S.rf, h00_ok, fun a a0 a1 => absurd (show a < 1 from a1) (by omega), fun k q h => by simp at h, fun q h => by cases h⟩
  refine lw_new (kd := 11) (R := room_1) hx hb hown hts2 hG.1 (by decide) (wl _ (w_law _ (List.mem_of_getElem? (i := 0) rfl))) S0 (by decide) (by decide) dl_0 (fun qx H1 S1 => ?_)
  refine lv_dup hx hb dl_3 rfl ?_
  have fn11 : sm_fn 11 = 16 := by decide
  rw [fn11] at S1 ⊢
  have ex : va_up (fun _ : Nat => 0) (ch_n h00) qx 1 = qx := if_pos rfl
  generalize va_up (fun _ : Nat => 0) (ch_n h00) qx = ad1 at S1 ex
  generalize va_up (fun _ : Nat => (0 : ClassId)) (ch_n h00) 0 = cl1 at S1
  have T11 : ch_T (ch_new h00 11 0 16) 1 = 11 := rfl
  obtain ⟨r, h2, ⟨er, z, J, e2, w, fzz, n248, zc, zs, zT⟩, g2, c2⟩ := call_leaf (w_made (d := 59) (Q := fun r g => r = none ∧ ∃ z J, g = (J, zb 209 z) ∧ wI 2 T00 0 1 (fun _ => mId) (fun _ _ => 0) (fun _ => 0) 0 none 11 29 z J ∧ fz z ∧ zN z = 248 ∧ zC z = 1 + 207 ∧ zS z ≤ 16 + 40000 ∧ z.2.2.1 1 = 11) (I := (ch_new h00 11 0 16).1) (R := (ch_new h00 11 0 16).2.1) (L := (ch_new h00 11 0 16).2.2.1) (Tk := (ch_new h00 11 0 16).2.2.2.1) (c := 1) (s := 16) (by rfl) (fun a j => by
    show (if a = 1 then (fun _ => 0) else (fun _ => 0)) j = 0
    split <;> rfl) (fun z J w f n zc zs zT => ⟨rfl, z, J, rfl, w, f, n, zc, zs, zT⟩))
  subst er
  have c2 : cm_call 70 m_Works_init [vR 11 1] (ch_new h00 11 0 16) (cm_qe none h2) := c2
  rw [← ex]
  refine lw_callI (k2 := m_Works_init) (a := 1) (h2 := h2) (R := room_1) (nL := 7) (cc := code) (rest := [.ref (ad1 1)]) ⟨by show 71 ≤ 2048; decide, by show 4520 ≤ 84000; decide⟩ (fun q z => z) hx hb hml hown hts2 hG S1 (sm_meth l 70 m_Works_init _ _ _ _ (by decide) (by decide) c2) (by decide) (by decide +kernel) (by decide +kernel) (by decide +kernel) (by decide) (fun v hv => ?_) (by decide +kernel) (wl _ (w_law _ (List.mem_of_getElem? (i := 2) rfl))) hl.1 (show 1 + 0 ≤ 8 by decide) dl_4 ?_ ?_
  · have : v = vR 11 1 := List.mem_singleton.mp hv
    rw [this]
    exact Or.inr ⟨show 1 < 2 by decide, T11⟩
  · rw [e2]
    have h1 : ch_c ((J, zb 209 z) : cm_H) = 208 := zc
    have h3 : ch_s ((J, zb 209 z) : cm_H) ≤ 40016 := zs
    rw [h1]
    exact ⟨by show 0 + 1 + (208 - (0 + 1)) ≤ 601024; decide, by show 0 + 16 + (_ - (0 + 16)) ≤ 7293034; omega⟩
  intro ad2 cl2 H2 locs2 S2 hex2 hn2
  have q12 : ad2 1 = qx := (hex2 1 (show 1 < 2 by decide)).1.trans ex
  rw [ex]
  subst e2
  have gs : 16 ≤ zS z := g2.2
  refine W.widen (k := zC z) (n := zS z) (by
    have h1 : ch_c ((J, zb 209 z) : cm_H) = zC z := rfl
    have h5 : ch_c (ch_new h00 11 0 16) = 1 := rfl
    rw [h1, h5, zc]
    decide) (by
    have h1 : ch_s ((J, zb 209 z) : cm_H) = zS z := rfl
    have h5 : ch_s (ch_new h00 11 0 16) = 16 := rfl
    rw [h1, h5]
    omega) ?_
  refine lv_astore_n (lv' := [(1, .ref qx), (0, .ref b)]) hx hb dl_7 rfl hl (by decide) rfl (fun ls hl => ?_)
  refine lw_new (kd := 12) (R := room_1) hx hb hown hts2 hG.1 (by decide) (wl _ (w_law _ (List.mem_of_getElem? (i := 1) rfl))) S2 (by show zC z + 1 ≤ 601024; omega) (by show zS z + 63 ≤ 7293034; omega) dl_8 (fun qm H3 S3 => ?_)
  refine lv_dup hx hb dl_11 rfl ?_
  have fn12 : sm_fn 12 = 63 := by decide
  rw [fn12] at S3 ⊢
  have n209 : ch_n ((J, zb 209 z) : cm_H) = 209 := rfl
  have em : va_up ad2 (ch_n ((J, zb 209 z) : cm_H)) qm 209 = qm := if_pos rfl
  have em1 : va_up ad2 (ch_n ((J, zb 209 z) : cm_H)) qm 1 = qx := (if_neg (by rw [n209]; decide)).trans q12
  generalize va_up ad2 (ch_n ((J, zb 209 z) : cm_H)) qm = ad3 at S3 em em1
  generalize va_up cl2 (ch_n ((J, zb 209 z) : cm_H)) 0 = cl3 at S3
  have T12 : ch_T (ch_new (J, zb 209 z) 12 0 63) 209 = 12 := rfl
  have T1 : ch_T (ch_new (J, zb 209 z) 12 0 63) 1 = 11 := zT
  obtain ⟨r, h4, ⟨er, I1, z1, e4, j1, zc1, zs1⟩, g4, c4⟩ := call_leaf (j_made (d := 60) w fzz n248)
  subst er
  subst e4
  rw [← em]
  refine lw_callI (k2 := m_Model_init) (a := 209) (h2 := (I1, z1)) (R := room_1) (nL := 7) (cc := code) (rest := [.ref (ad3 209)]) ⟨by show 71 ≤ 2048; decide, by show 4520 ≤ 84000; decide⟩ (fun q z => z) hx hb hml hown hts2 hG S3 (sm_meth l 70 m_Model_init _ _ _ _ (by decide) (by decide) c4) (by decide) (by decide +kernel) (by decide +kernel) (by decide +kernel) (by decide) (fun v hv => ?_) (by decide +kernel) (wl _ (w_law _ (List.mem_of_getElem? (i := 3) rfl))) hl.1 (show 1 + 0 ≤ 8 by decide) dl_12 ?_ ?_
  · have : v = vR 12 209 := List.mem_singleton.mp hv
    rw [this]
    exact Or.inr ⟨show 209 < 210 by decide, T12⟩
  · have h1 : ch_c ((I1, z1) : cm_H) = zC z + 39 := zc1
    have h2 : ch_s ((I1, z1) : cm_H) = zS z + 481214 := zs1
    rw [h1, h2]
    have h5 : ch_c (ch_new (J, zb 209 z) 12 0 63) = zC z + 1 := rfl
    have h6 : ch_s (ch_new (J, zb 209 z) 12 0 63) = zS z + 63 := rfl
    rw [h5, h6]
    exact ⟨by show _ ≤ 601024; omega, by show _ ≤ 7293034; omega⟩
  intro ad4 cl4 H4 locs4 S4 hex4 hn4
  have n1 := jW_N j1
  have q14 : ad4 1 = qx := (hex4 1 (show 1 < 210 by decide)).1.trans em1
  have q24 : ad4 209 = qm := (hex4 209 (show 209 < 210 by decide)).1.trans em
  have t14 : z1.2.2.1 1 = 11 := (hex4 1 (show 1 < 210 by decide)).2.trans T1
  have t24 : z1.2.2.1 209 = 12 := (hex4 209 (show 209 < 210 by decide)).2.trans T12
  rw [em]
  have b1 : zC z1 = 247 := by omega
  have b2 : zS z1 ≤ 521230 := by omega
  refine W.widen (k := zC z1) (n := zS z1) (by
    have h1 : ch_c ((I1, z1) : cm_H) = zC z + 39 := zc1
    have h5 : ch_c (ch_new (J, zb 209 z) 12 0 63) = zC z + 1 := rfl
    rw [h1, h5]
    omega) (by
    have h1 : ch_s ((I1, z1) : cm_H) = zS z + 481214 := zs1
    have h5 : ch_s (ch_new (J, zb 209 z) 12 0 63) = zS z + 63 := rfl
    rw [h1, h5]
    omega) ?_
  refine lv_astore_n (lv' := [(2, .ref qm), (1, .ref qx), (0, .ref b)]) hx hb dl_15 rfl hl (by decide) rfl (fun ls hl => ?_)
  refine lv_iconst (v := 1) hx hb dl_16 (by decide) ?_
  refine va_newa (atype := .long) (ty := .long) (N' := 1) (a0 := (1, .inr (.inl (fun _ => 0)))) hx hb (hts2 _ (wl _ (w_law _ (List.mem_of_getElem? (i := 4) rfl)))) rfl hG.1 S4.1 S4.2.1 S4.2.2.1 (fun q z => z) (fun cA => rfl) (by decide) (by decide) (by decide) (by show zC z1 + 1 ≤ 601024; omega) (by show zS z1 + 1 ≤ 7293034; omega) dl_17 (fun qo cA H5 hK5 hP5 hD5 hS5 => ?_)
  have S5 : lwS (lwA s) s D [lt_e qo cA (fun _ => 0)] ad4 cl4 (I1, z1) H5 locs4 := lw_split hP5 hD5 hS5 S4.2.2.2.1 S4.2.2.2.2.1
  refine lv_astore_n (lv' := [(3, .ref qo), (2, .ref qm), (1, .ref qx), (0, .ref b)]) hx hb dl_19 rfl hl (by decide) rfl (fun ls hl => ?_)
  refine lv_iconst (v := 0) hx hb dl_20 (by decide) ?_
  refine lv_istore (lv' := [(4, .int 0), (3, .ref qo), (2, .ref qm), (1, .ref qx), (0, .ref b)]) hx hb dl_21 hl (by decide) rfl (fun ls hl => ?_)
  exact law_loop (qo := qo) (q1 := qx) (q2 := qm) (zs := z1) ⟨hx, hb, hml, hown, hts2, hX, hbl, hG, hK5, hT, hst, hL⟩ hr hlocks (fun z9 I9 u j => jW_bd (by omega) (by omega) u j) (L + 1) 0 0 z1 I1 ad4 cl4 H5 locs4 ls _ (by omega) (by omega) (by omega) ⟨j1, usW_refl z1, S5, q14, q24, t14, t24, by rw [nI_0]; exact hl⟩
