/-! THE LAW: the case that may throw, its loop -/
theorem i3_and31 {x : Int} : Int32.ofInt x &&& Int32.ofInt 31 = Int32.ofInt (x % (31 + 1)) := by
  apply Int32.toBitVec_inj.mp
  apply BitVec.eq_of_toNat_eq
  have e1 : (Int32.ofInt x &&& Int32.ofInt 31).toBitVec = (Int32.ofInt x).toBitVec &&& 31#32 := rfl
  have e2 : ∀ z : Int, (Int32.ofInt z).toBitVec = BitVec.ofInt 32 z := fun z => rfl
  rw [e1, e2, e2, BitVec.toNat_and, BitVec.toNat_ofInt, BitVec.toNat_ofInt]
  have e3 : (31#32).toNat = 2 ^ 5 - 1 := rfl
  rw [e3, Nat.and_two_pow_sub_one_eq_mod]
  omega
theorem cl_of {v : Int} (h : cm_i v) : cm_l v := ⟨by have := h.1; omega, by have := h.2; omega⟩
theorem nI_ofInt {n : Nat} (h : n < 2 ^ 31) : nI n = Int32.ofInt (n : Int) := Int32.toInt_inj.mp (by rw [nI_toInt h, i3_to ⟨by omega, by omega⟩])
theorem lw_gt {i L : Nat} (hi : i ≤ 5000) (hL : L ≤ 3584) : (Int32.ofNat L - 7 < nI i) ↔ L < i + 7 := by
  have e1 : Int32.ofNat L = Int32.ofInt (L : Int) := nI_ofInt (by omega)
  have e2 : (7 : Int32) = Int32.ofInt 7 := by decide
  rw [e1, e2, ← Int32.ofInt_sub, nI_ofInt (n := i) (by omega), i3_lt ⟨by omega, by omega⟩ ⟨by omega, by omega⟩]
  omega
section LWL
variable {p : Program} {l : Launch} {e : Env} {s : State} {m : MethodId} {below : List Frame} {meth : Method} {c : Code} {Q : State → Prop} {D : va_G} {ad : Nat → Nat} {cl : Nat → ClassId} {H : Heap} {locs : List Loc} {ls : Array Slot} {b L i t qo q1 q2 : Nat} {xs : Nat → Int32} {cA : ClassId} {zs z : cm_Z} {I : cm_I} {f : Nat → Int64}
theorem lc_9 (C : lwC l p s m meth c b L xs D cA) (hB : lwB zs) (hi : i + 7 ≤ L) (ht : t ≤ 512) (N : lwN s D cA b qo q1 q2 i zs z I ad cl H locs ls f) (K : ∀ (z1 : cm_Z) (I1 : cm_I) (ad1 : Nat → Nat) (cl1 : Nat → ClassId) (H1 : Heap) (locs1 : List Loc) (ls1 : Array Slot) (f1 : Nat → Int64) (t1 : Nat), t1 ≤ t + 1 → lwN s D cA b qo q1 q2 i zs z1 I1 ad1 cl1 H1 locs1 ls1 f1 → W p l e room_1 s m #[Value.ref b] below meth c H1 locs1 (zC z1 + (1 + t1)) (zS z1 + (1 + 6 * t1)) Q (F0 m 1246 ls1 [])) : W p l e room_1 s m #[Value.ref b] below meth c H locs (zC z + (1 + t)) (zS z + (1 + 6 * t)) Q (F0 m 537 ls []) := by
  obtain ⟨hx, hb, hml, hown, hts, hX, hbl, hG, hKl, hT, hst, hL⟩ := C
  obtain ⟨j, u, S, e1, e2, T1, T2, hl⟩ := N
  have n0 := jW_N j
  have bd := hB z I u j
  have hva : ∀ w ∈ [vR 11 1, vI (xs (i + 1)).toInt, vI (xs (i + 2)).toInt, vI (xs (i + 3)).toInt], vok (I, z) w := by
    intro w hw
    simp only [List.mem_cons, List.not_mem_nil, or_false] at hw
    rcases hw with rfl | rfl | rfl | rfl
    · exact Or.inr ⟨show 1 < zN z by omega, T1⟩
    · exact t32i _
    · exact t32i _
    · exact t32i _
  have hva2 : ∀ w ∈ ([vI (xs (i + 1)).toInt, vI (xs (i + 2)).toInt, vI (xs (i + 3)).toInt] : List cm_V), vok (I, z) w := fun w hw => hva w (List.mem_cons_of_mem _ hw)
  refine lv_aload_n hx hb dl_537 rfl (lv_at hl 3 rfl) ?_
  refine lw_arg (j := 1) hx hb hX hbl S.2.2.1 (lv_at hl 4 rfl) (lv_at hl 0 rfl) (by omega) hL (by decide) dl_538 dl_539 dl_541 dl_542 dl_543 ?_
  refine lw_arg (j := 2) hx hb hX hbl S.2.2.1 (lv_at hl 4 rfl) (lv_at hl 0 rfl) (by omega) hL (by decide) dl_544 dl_545 dl_547 dl_548 dl_549 ?_
  refine lw_arg (j := 3) hx hb hX hbl S.2.2.1 (lv_at hl 4 rfl) (lv_at hl 0 rfl) (by omega) hL (by decide) dl_550 dl_551 dl_553 dl_554 dl_555 ?_
  refine lv_aload_n hx hb dl_556 rfl (lv_at hl 1 rfl) ?_
  rw [← e1]
  rcases j_term j (xs (i + 1)).toInt (xs (i + 2)).toInt (xs (i + 3)).toInt (t32 _) with ⟨v, I2, c1, c2, c3, j2⟩ | ⟨v, I2, c1, c2, c3, j2⟩
  · refine lw_callT (r := 0) (mc := 0) (ms := 0) (f' := vp_updL f 0 (Int64.ofInt v)) hx hb hml hown hts hG hKl hT S (lt_metR l S.2.2.2.1 hva (sm_methR l (d := 69) (by decide) (by intro q; cases q) c1)) ⟨by show 72 ≤ 2048; decide, by show 4700 ≤ 84000; decide⟩ hl.1 dl_557 ⟨by show _ ≤ 601024; omega, by show _ ≤ 7293034; omega⟩ (fun ad1 cl1 H1 locs1 S1 hex1 => ?_)
    refine lv_istore (lv' := [(5, .int 0), (4, .int (nI i)), (3, .ref qo), (2, .ref q2), (1, .ref q1), (0, .ref b)]) hx hb dl_560 hl (by decide) rfl (fun ls2 hl2 => ?_)
    refine lv_aload_n hx hb dl_562 rfl (lv_at hl2 3 rfl) ?_
    refine lw_arg (j := 1) hx hb hX hbl S1.2.2.1 (lv_at hl2 5 rfl) (lv_at hl2 1 rfl) (by omega) hL (by decide) dl_563 dl_564 dl_566 dl_567 dl_568 ?_
    refine lw_arg (j := 2) hx hb hX hbl S1.2.2.1 (lv_at hl2 5 rfl) (lv_at hl2 1 rfl) (by omega) hL (by decide) dl_569 dl_570 dl_572 dl_573 dl_574 ?_
    refine lw_arg (j := 3) hx hb hX hbl S1.2.2.1 (lv_at hl2 5 rfl) (lv_at hl2 1 rfl) (by omega) hL (by decide) dl_575 dl_576 dl_578 dl_579 dl_580 ?_
    have f1 : ad1 209 = q2 := (hex1 209 (show 209 < zN z by omega)).trans e2
    have g1 : ad1 1 = q1 := (hex1 1 (show 1 < zN z by omega)).trans e1
    rw [← f1]
    refine lw_cx (as2 := [vI (xs (i + 1)).toInt, vI (xs (i + 2)).toInt, vI (xs (i + 3)).toInt]) (rest := []) (k2 := m_Model_term) (a := 209) hx hb hml hown hts hG S1 c2 (by decide +kernel) (by decide) (show 209 < zN z by omega) T2 hva2 (show 3 = sm_na m_Model_term by decide +kernel) (law_lk _ (List.mem_of_getElem? (i := 48) rfl)) hl2.1 (by decide) dl_581 bd.1 bd.2 (show 1 + t ≤ 1000 by omega) (show 1 + 6 * t ≤ 10000 by omega) rfl rfl (fun ad2 cl2 H2 locs2 S2 hex2 hn2 cv => ?_)
    refine lv_istore (lv' := [(6, .int (Int32.ofInt v)), (5, .int 0), (4, .int (nI i)), (3, .ref qo), (2, .ref q2), (1, .ref q1), (0, .ref b)]) hx hb dl_584 hl2 (by decide) rfl (fun ls3 hl3 => ?_)
    refine lv_aload_n hx hb dl_586 rfl (lv_at hl3 4 rfl) ?_
    have f2 : ad2 209 = q2 := (hex2 209 (show 209 < zN z by omega)).1.trans f1
    have g2 : ad2 1 = q1 := (hex2 1 (show 1 < zN z by omega)).1.trans g1
    rw [← f2]
    refine lw_cx (as2 := []) (rest := []) (k2 := m_Model_thrown) (a := 209) hx hb hml hown hts hG S2 c3 (by decide +kernel) (by decide) (show 209 < zN z by omega) T2 (fun w hw => by cases hw) (show 0 = sm_na m_Model_thrown by decide +kernel) (law_lk _ (List.mem_of_getElem? (i := 49) rfl)) hl3.1 (by decide) dl_587 bd.1 bd.2 (show 1 + t ≤ 1000 by omega) (show 1 + 6 * t ≤ 10000 by omega) rfl rfl (fun ad3 cl3 H3 locs3 S3 hex3 hn3 _ => ?_)
    refine lv_iload hx hb dl_590 (lv_at hl3 1 rfl) ?_
    refine lv_icmp_eq (tgt := 597) hx hb dl_592 (by decide) (fun _ => ?_) (fun q => absurd (by decide) q)
    refine lv_iload hx hb dl_597 (lv_at hl3 1 rfl) ?_
    refine lv_if_ne (tgt := 614) hx hb dl_599 (by decide) (fun q => absurd rfl q) (fun _ => ?_)
    refine lv_aload_n hx hb dl_602 rfl (lv_at hl3 3 rfl) ?_
    refine lv_iconst (v := 0) hx hb dl_603 (by decide) ?_
    obtain ⟨hP3, hD3⟩ := lw_app S3
    refine va_lald (q0 := (sm_ws ad3 cl3 (I2, z)).length) (t0 := 0) (n := 1) (f := vp_updL f 0 (Int64.ofInt v)) (cA := cA) hx hb hKl hP3 (by simp) rfl (by unfold vp_in; decide) dl_604 ?_
    rw [show vp_updL f 0 (Int64.ofInt v) (0 : Int32).toNatClampNeg = Int64.ofInt v from rfl]
    refine lv_iload hx hb dl_605 (lv_at hl3 0 rfl) ?_
    refine lv_i2l (v := Int64.ofInt v) hx hb dl_607 (i3_i2l cv) ?_
    refine W.lcmp hx hb dl_608 ?_
    rw [i6_cmp (cl_of cv) (cl_of cv), if_neg (Int.lt_irrefl v), if_pos rfl]
    refine lv_if_eq (tgt := 614) hx hb dl_609 (by decide) (fun _ => ?_) (fun q => absurd (by decide) q)
    refine lv_goto (tgt := 1246) hx hb dl_614 (by decide) ?_
    exact K z I2 ad3 cl3 H3 locs3 ls3 _ t (Nat.le_succ _) ⟨j2, u, S3, (hex3 1 (show 1 < zN z by omega)).1.trans g2, (hex3 209 (show 209 < zN z by omega)).1.trans f2, T1, T2, lv_sub hl3 [2, 3, 4, 5, 6] rfl⟩
  · refine lw_callT (r := 1) (mc := 1) (ms := 6) (f' := f) hx hb hml hown hts hG hKl hT S (lt_metX l hst S.2.2.2.1 hva c1) ⟨by show 72 ≤ 2048; decide, by show 4700 ≤ 84000; decide⟩ hl.1 dl_557 ⟨by show _ ≤ 601024; omega, by show _ ≤ 7293034; omega⟩ (fun ad1 cl1 H1 locs1 S1 hex1 => ?_)
    refine W.widen (k := zC z + (1 + (t + 1))) (n := zS z + (1 + 6 * (t + 1))) (by omega) (by omega) ?_
    refine lv_istore (lv' := [(5, .int 1), (4, .int (nI i)), (3, .ref qo), (2, .ref q2), (1, .ref q1), (0, .ref b)]) hx hb dl_560 hl (by decide) rfl (fun ls2 hl2 => ?_)
    refine lv_aload_n hx hb dl_562 rfl (lv_at hl2 3 rfl) ?_
    refine lw_arg (j := 1) hx hb hX hbl S1.2.2.1 (lv_at hl2 5 rfl) (lv_at hl2 1 rfl) (by omega) hL (by decide) dl_563 dl_564 dl_566 dl_567 dl_568 ?_
    refine lw_arg (j := 2) hx hb hX hbl S1.2.2.1 (lv_at hl2 5 rfl) (lv_at hl2 1 rfl) (by omega) hL (by decide) dl_569 dl_570 dl_572 dl_573 dl_574 ?_
    refine lw_arg (j := 3) hx hb hX hbl S1.2.2.1 (lv_at hl2 5 rfl) (lv_at hl2 1 rfl) (by omega) hL (by decide) dl_575 dl_576 dl_578 dl_579 dl_580 ?_
    have f1 : ad1 209 = q2 := (hex1 209 (show 209 < zN z by omega)).trans e2
    have g1 : ad1 1 = q1 := (hex1 1 (show 1 < zN z by omega)).trans e1
    rw [← f1]
    refine lw_cx (as2 := [vI (xs (i + 1)).toInt, vI (xs (i + 2)).toInt, vI (xs (i + 3)).toInt]) (rest := []) (k2 := m_Model_term) (a := 209) hx hb hml hown hts hG S1 c2 (by decide +kernel) (by decide) (show 209 < zN z by omega) T2 hva2 (show 3 = sm_na m_Model_term by decide +kernel) (law_lk _ (List.mem_of_getElem? (i := 48) rfl)) hl2.1 (by decide) dl_581 bd.1 bd.2 (show 1 + (t + 1) ≤ 1000 by omega) (show 1 + 6 * (t + 1) ≤ 10000 by omega) rfl rfl (fun ad2 cl2 H2 locs2 S2 hex2 hn2 cv => ?_)
    refine lv_istore (lv' := [(6, .int (Int32.ofInt v)), (5, .int 1), (4, .int (nI i)), (3, .ref qo), (2, .ref q2), (1, .ref q1), (0, .ref b)]) hx hb dl_584 hl2 (by decide) rfl (fun ls3 hl3 => ?_)
    refine lv_aload_n hx hb dl_586 rfl (lv_at hl3 4 rfl) ?_
    have f2 : ad2 209 = q2 := (hex2 209 (show 209 < zN z by omega)).1.trans f1
    have g2 : ad2 1 = q1 := (hex2 1 (show 1 < zN z by omega)).1.trans g1
    rw [← f2]
    refine lw_cx (as2 := []) (rest := []) (k2 := m_Model_thrown) (a := 209) hx hb hml hown hts hG S2 c3 (by decide +kernel) (by decide) (show 209 < zN z by omega) T2 (fun w hw => by cases hw) (show 0 = sm_na m_Model_thrown by decide +kernel) (law_lk _ (List.mem_of_getElem? (i := 49) rfl)) hl3.1 (by decide) dl_587 bd.1 bd.2 (show 1 + (t + 1) ≤ 1000 by omega) (show 1 + 6 * (t + 1) ≤ 10000 by omega) rfl rfl (fun ad3 cl3 H3 locs3 S3 hex3 hn3 _ => ?_)
    refine lv_iload hx hb dl_590 (lv_at hl3 1 rfl) ?_
    refine lv_icmp_eq (tgt := 597) hx hb dl_592 (by decide) (fun _ => ?_) (fun q => absurd (by decide) q)
    refine lv_iload hx hb dl_597 (lv_at hl3 1 rfl) ?_
    refine lv_if_ne (tgt := 614) hx hb dl_599 (by decide) (fun _ => ?_) (fun q => absurd q (by decide))
    refine lv_goto (tgt := 1246) hx hb dl_614 (by decide) ?_
    exact K z I2 ad3 cl3 H3 locs3 ls3 _ (t + 1) (Nat.le_refl _) ⟨j2, u, S3, (hex3 1 (show 1 < zN z by omega)).1.trans g2, (hex3 209 (show 209 < zN z by omega)).1.trans f2, T1, T2, lv_sub hl3 [2, 3, 4, 5, 6] rfl⟩
/-- THE LAW'S LOOP -/
theorem law_loop (C : lwC l p s m meth c b L xs D cA) (hr : meth.sig.returnType = ret) (hlocks : meth.locks = false) (hB : lwB zs) : ∀ (n i t : Nat) (z : cm_Z) (I : cm_I) (ad : Nat → Nat) (cl : Nat → ClassId) (H : Heap) (locs : List Loc) (ls : Array Slot) (f : Nat → Int64), L < i + n → 7 * t ≤ i → i ≤ L + 7 → lwN s D cA b qo q1 q2 i zs z I ad cl H locs ls f → W p l e room_1 s m #[Value.ref b] below meth c H locs (zC z + (1 + t)) (zS z + (1 + 6 * t)) (lw_Z below #[Value.ref b] s) (F0 m 23 ls []) := by
  intro n
  induction n with
  | zero =>
    intro i t z I ad cl H locs ls f h1 h2 h3 N
    obtain ⟨hx, hb, hml, hown, hts, hX, hbl, hG, hKl, hT, hst, hL⟩ := C
    obtain ⟨j, u, S, e1, e2, T1, T2, hl⟩ := N
    have bd := hB z I u j
    refine lv_iload hx hb dl_23 (lv_at hl 0 rfl) ?_
    refine lv_aload_n hx hb dl_25 rfl (lv_at hl 4 rfl) ?_
    refine va_slen hx hb hX hbl (Nat.not_le.mpr hbl) S.2.2.1 dl_26 ?_
    refine lv_bipush (v := 7) hx hb dl_27 (by decide) ?_
    refine lv_isub hx hb dl_29 ?_
    refine lv_icmp_gt (tgt := 1252) hx hb dl_30 (by decide) (fun q => ?_) (fun q => absurd ((lw_gt (by omega) hL).mpr (by omega)) q)
    refine va_forget (fun q hq => S.2.2.1.2.2 q hq) ?_
    refine W.widen (k := 601024) (n := 7293034) (by omega) (by omega) ?_
    refine lv_iconst (v := 1) hx hb dl_1252 (by decide) ?_
    exact lw_ret hx hb hr hlocks dl_1253
  | succ n ih =>
    intro i t z I ad cl H locs ls f h1 h2 h3 N
    have C0 := C
    have N0 := N
    obtain ⟨hx, hb, hml, hown, hts, hX, hbl, hG, hKl, hT, hst, hL⟩ := C
    obtain ⟨j, u, S, e1, e2, T1, T2, hl⟩ := N
    have bd := hB z I u j
    refine lv_iload hx hb dl_23 (lv_at hl 0 rfl) ?_
    refine lv_aload_n hx hb dl_25 rfl (lv_at hl 4 rfl) ?_
    refine va_slen hx hb hX hbl (Nat.not_le.mpr hbl) S.2.2.1 dl_26 ?_
    refine lv_bipush (v := 7) hx hb dl_27 (by decide) ?_
    refine lv_isub hx hb dl_29 ?_
    refine lv_icmp_gt (tgt := 1252) hx hb dl_30 (by decide) (fun q => ?_) (fun q => ?_)
    · refine va_forget (fun q hq => S.2.2.1.2.2 q hq) ?_
      refine W.widen (k := 601024) (n := 7293034) (by omega) (by omega) ?_
      refine lv_iconst (v := 1) hx hb dl_1252 (by decide) ?_
      exact lw_ret hx hb hr hlocks dl_1253
    · have hi : i + 7 ≤ L := by
        rcases Nat.lt_or_ge L (i + 7) with w | w
        · exact absurd ((lw_gt (by omega) hL).mpr w) q
        · exact w
      have ht : t ≤ 512 := by omega
      have K : ∀ (z1 : cm_Z) (I1 : cm_I) (ad1 : Nat → Nat) (cl1 : Nat → ClassId) (H1 : Heap) (locs1 : List Loc) (ls1 : Array Slot) (f1 : Nat → Int64) (t1 : Nat), t1 ≤ t + 1 → lwN s D cA b qo q1 q2 i zs z1 I1 ad1 cl1 H1 locs1 ls1 f1 → W p l e room_1 s m #[Value.ref b] below meth c H1 locs1 (zC z1 + (1 + t1)) (zS z1 + (1 + 6 * t1)) (lw_Z below #[Value.ref b] s) (F0 m 1246 ls1 []) := by
        intro z1 I1 ad1 cl1 H1 locs1 ls1 f1 t1 ht1 N1
        obtain ⟨j', u', S', e1', e2', T1', T2', hl'⟩ := N1
        have e7 : nI i + Int32.ofInt 7 = nI (i + 7) := by rw [show Int32.ofInt 7 = nI 7 by decide, nI_add]
        refine lv_iinc (v := nI (i + 7)) (lv' := [(4, .int (nI (i + 7))), (3, .ref qo), (2, .ref q2), (1, .ref q1), (0, .ref b)]) hx hb dl_1246 hl' (k := 0) rfl e7 (by decide) rfl (fun ls2 hl2 => ?_)
        refine lv_goto (tgt := 23) hx hb dl_1249 (by decide) ?_
        exact ih (i + 7) t1 z1 I1 ad1 cl1 H1 locs1 ls2 f1 (by omega) (by omega) (by omega) ⟨j', u', S', e1', e2', T1', T2', hl2⟩
      have h_in : vp_in (nI i) L := vp_in_nI (by omega) (by omega)
      refine lv_aload_n hx hb dl_33 rfl (lv_at hl 4 rfl) ?_
      refine lv_iload hx hb dl_34 (lv_at hl 0 rfl) ?_
      refine va_sld hx hb hX hbl (Nat.not_le.mpr hbl) S.2.2.1 h_in dl_36 ?_
      refine lv_bipush (v := Int32.ofInt 31) hx hb dl_37 (by decide) ?_
      refine lv_iand hx hb dl_39 ?_
      rw [← Int32.ofInt_toInt (xs (nI i).toNatClampNeg), i3_and31]
      obtain ⟨y, hy⟩ : ∃ y : Int, y = (xs (nI i).toNatClampNeg).toInt % (31 + 1) := ⟨_, rfl⟩
      rw [← hy]
      have y0 : 0 ≤ y := by omega
      have y1 : y < 32 := by omega
      have ty : (Int32.ofInt y).toInt = y := i3_to ⟨by omega, by omega⟩
      by_cases hy25 : 25 ≤ y
      · refine lv_tableOut (tgt := 1246) hx hb dl_40 (by rw [ty]; omega) (by decide) ?_
        exact K z I ad cl H locs ls f t (Nat.le_succ _) N0
      · have hc : y = 0 ∨ y = 1 ∨ y = 2 ∨ y = 3 ∨ y = 4 ∨ y = 5 ∨ y = 6 ∨ y = 7 ∨ y = 8 ∨ y = 9 ∨ y = 10 ∨ y = 11 ∨ y = 12 ∨ y = 13 ∨ y = 14 ∨ y = 15 ∨ y = 16 ∨ y = 17 ∨ y = 18 ∨ y = 19 ∨ y = 20 ∨ y = 21 ∨ y = 22 ∨ y = 23 ∨ y = 24 := by omega
        rcases hc with h | h | h | h | h | h | h | h | h | h | h | h | h | h | h | h | h | h | h | h | h | h | h | h | h
        · rw [h] at ty ⊢
          refine lv_tableIn (off := 116) (tgt := 156) hx hb dl_40 (by rw [ty]; decide) (by rw [ty]; decide) (by rw [ty]; rfl) (by decide) ?_
          exact lc_0 C0 hB hi ht N0 K
        · rw [h] at ty ⊢
          refine lv_tableIn (off := 189) (tgt := 229) hx hb dl_40 (by rw [ty]; decide) (by rw [ty]; decide) (by rw [ty]; rfl) (by decide) ?_
          exact lc_1 C0 hB hi ht N0 K
        · rw [h] at ty ⊢
          refine lv_tableIn (off := 214) (tgt := 254) hx hb dl_40 (by rw [ty]; decide) (by rw [ty]; decide) (by rw [ty]; rfl) (by decide) ?_
          exact lc_2 C0 hB hi ht N0 K
        · rw [h] at ty ⊢
          refine lv_tableIn (off := 251) (tgt := 291) hx hb dl_40 (by rw [ty]; decide) (by rw [ty]; decide) (by rw [ty]; rfl) (by decide) ?_
          exact lc_3 C0 hB hi ht N0 K
        · rw [h] at ty ⊢
          refine lv_tableIn (off := 276) (tgt := 316) hx hb dl_40 (by rw [ty]; decide) (by rw [ty]; decide) (by rw [ty]; rfl) (by decide) ?_
          exact lc_4 C0 hB hi ht N0 K
        · rw [h] at ty ⊢
          refine lv_tableIn (off := 325) (tgt := 365) hx hb dl_40 (by rw [ty]; decide) (by rw [ty]; decide) (by rw [ty]; rfl) (by decide) ?_
          exact lc_5 C0 hB hi ht N0 K
        · rw [h] at ty ⊢
          refine lv_tableIn (off := 362) (tgt := 402) hx hb dl_40 (by rw [ty]; decide) (by rw [ty]; decide) (by rw [ty]; rfl) (by decide) ?_
          exact lc_6 C0 hB hi ht N0 K
        · rw [h] at ty ⊢
          refine lv_tableIn (off := 399) (tgt := 439) hx hb dl_40 (by rw [ty]; decide) (by rw [ty]; decide) (by rw [ty]; rfl) (by decide) ?_
          exact lc_7 C0 hB hi ht N0 K
        · rw [h] at ty ⊢
          refine lv_tableIn (off := 436) (tgt := 476) hx hb dl_40 (by rw [ty]; decide) (by rw [ty]; decide) (by rw [ty]; rfl) (by decide) ?_
          exact lc_8 C0 hB hi ht N0 K
        · rw [h] at ty ⊢
          refine lv_tableIn (off := 497) (tgt := 537) hx hb dl_40 (by rw [ty]; decide) (by rw [ty]; decide) (by rw [ty]; rfl) (by decide) ?_
          exact lc_9 C0 hB hi ht N0 K
        · rw [h] at ty ⊢
          refine lv_tableIn (off := 577) (tgt := 617) hx hb dl_40 (by rw [ty]; decide) (by rw [ty]; decide) (by rw [ty]; rfl) (by decide) ?_
          exact lc_10 C0 hB hi ht N0 K
        · rw [h] at ty ⊢
          refine lv_tableIn (off := 626) (tgt := 666) hx hb dl_40 (by rw [ty]; decide) (by rw [ty]; decide) (by rw [ty]; rfl) (by decide) ?_
          exact lc_11 C0 hB hi ht N0 K
        · rw [h] at ty ⊢
          refine lv_tableIn (off := 663) (tgt := 703) hx hb dl_40 (by rw [ty]; decide) (by rw [ty]; decide) (by rw [ty]; rfl) (by decide) ?_
          exact lc_12 C0 hB hi ht N0 K
        · rw [h] at ty ⊢
          refine lv_tableIn (off := 724) (tgt := 764) hx hb dl_40 (by rw [ty]; decide) (by rw [ty]; decide) (by rw [ty]; rfl) (by decide) ?_
          exact lc_13 C0 hB hi ht N0 K
        · rw [h] at ty ⊢
          refine lv_tableIn (off := 773) (tgt := 813) hx hb dl_40 (by rw [ty]; decide) (by rw [ty]; decide) (by rw [ty]; rfl) (by decide) ?_
          exact lc_14 C0 hB hi ht N0 K
        · rw [h] at ty ⊢
          refine lv_tableIn (off := 798) (tgt := 838) hx hb dl_40 (by rw [ty]; decide) (by rw [ty]; decide) (by rw [ty]; rfl) (by decide) ?_
          exact lc_15 C0 hB hi ht N0 K
        · rw [h] at ty ⊢
          refine lv_tableIn (off := 847) (tgt := 887) hx hb dl_40 (by rw [ty]; decide) (by rw [ty]; decide) (by rw [ty]; rfl) (by decide) ?_
          exact lc_16 C0 hB hi ht N0 K
        · rw [h] at ty ⊢
          refine lv_tableIn (off := 896) (tgt := 936) hx hb dl_40 (by rw [ty]; decide) (by rw [ty]; decide) (by rw [ty]; rfl) (by decide) ?_
          exact lc_17 C0 hB hi ht N0 K
        · rw [h] at ty ⊢
          refine lv_tableIn (off := 933) (tgt := 973) hx hb dl_40 (by rw [ty]; decide) (by rw [ty]; decide) (by rw [ty]; rfl) (by decide) ?_
          exact lc_18 C0 hB hi ht N0 K
        · rw [h] at ty ⊢
          refine lv_tableIn (off := 946) (tgt := 986) hx hb dl_40 (by rw [ty]; decide) (by rw [ty]; decide) (by rw [ty]; rfl) (by decide) ?_
          exact lc_19 C0 hB hi ht N0 K
        · rw [h] at ty ⊢
          refine lv_tableIn (off := 983) (tgt := 1023) hx hb dl_40 (by rw [ty]; decide) (by rw [ty]; decide) (by rw [ty]; rfl) (by decide) ?_
          exact lc_20 C0 hB hi ht N0 K
        · rw [h] at ty ⊢
          refine lv_tableIn (off := 1008) (tgt := 1048) hx hb dl_40 (by rw [ty]; decide) (by rw [ty]; decide) (by rw [ty]; rfl) (by decide) ?_
          exact lc_21 C0 hB hi ht N0 K
        · rw [h] at ty ⊢
          refine lv_tableIn (off := 1033) (tgt := 1073) hx hb dl_40 (by rw [ty]; decide) (by rw [ty]; decide) (by rw [ty]; rfl) (by decide) ?_
          exact lc_22 C0 hB hi ht N0 K
        · rw [h] at ty ⊢
          refine lv_tableIn (off := 1094) (tgt := 1134) hx hb dl_40 (by rw [ty]; decide) (by rw [ty]; decide) (by rw [ty]; rfl) (by decide) ?_
          exact lc_23 C0 hB hi ht N0 K
        · rw [h] at ty ⊢
          refine lv_tableIn (off := 1181) (tgt := 1221) hx hb dl_40 (by rw [ty]; decide) (by rw [ty]; decide) (by rw [ty]; rfl) (by decide) ?_
          exact lc_24 C0 hB hi ht N0 K
end LWL
