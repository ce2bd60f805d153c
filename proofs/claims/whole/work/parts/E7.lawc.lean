/-! THE LAW: its cases -/
def lwC (l : Launch) (p : Program) (s : State) (m : MethodId) (meth : Method) (c : Code) (b L : Nat) (xs : Nat → Int32) (D : va_G) (cA : ClassId) : Prop := p.tables.exec = Jvm.exec ∧ c.code = code ∧ c.maxLocals = 7 ∧ s.vm.findClass R_law = some m.cls ∧ (∀ w ∈ tbG, w.before #[Value.ref b] s = true) ∧ va_X b L xs s s.heap ∧ b < s.heap.size ∧ lwG s D ∧ va_K D vwCl [(cA, .long)] s ∧ txP (lwA s) s s.heap ∧ l.stackTraces = false ∧ L ≤ 3584
def lwB (zs : cm_Z) : Prop := ∀ z1 I1, usW zs z1 → jW z1 I1 → zC z1 ≤ 600000 ∧ zS z1 ≤ 7280000
def lwN (s : State) (D : va_G) (cA : ClassId) (b qo q1 q2 i : Nat) (zs z : cm_Z) (I : cm_I) (ad : Nat → Nat) (cl : Nat → ClassId) (H : Heap) (locs : List Loc) (ls : Array Slot) (f : Nat → Int64) : Prop := jW z I ∧ usW zs z ∧ lwS (lwA s) s D [lt_e qo cA f] ad cl (I, z) H locs ∧ ad 1 = q1 ∧ ad 209 = q2 ∧ z.2.2.1 1 = 11 ∧ z.2.2.1 209 = 12 ∧ lv_has ls 7 [(4, .int (nI i)), (3, .ref qo), (2, .ref q2), (1, .ref q1), (0, .ref b)]
theorem jW_N {z : cm_Z} {I : cm_I} (h : jW z I) : 248 ≤ zN z := by
  obtain ⟨D, T, nt, n, L, K, B, tp, rf, sh, mb, h⟩ := h
  exact wI_N h.1
theorem t32 (x : Int32) : x.toInt ≤ 2147483647 := by have := Int32.toInt_lt x; omega
theorem t32i (x : Int32) : cm_i x.toInt := ⟨by have := Int32.le_toInt x; omega, t32 x⟩
section LWX
variable {p : Program} {l : Launch} {e : Env} {s : State} {m : MethodId} {below : List Frame} {meth : Method} {c : Code} {Q : State → Prop} {D : va_G} {ex : va_W} {ad : Nat → Nat} {cl : Nat → ClassId} {h : cm_H} {H : Heap} {locs : List Loc} {cells slots : Nat} {ls : Array Slot} {rest : List Value} {args : Array Value}
theorem lw_cx {h2 : cm_H} {v : Int} {k2 a idx pc o o6 : Nat} {as2 : List cm_V} (hx : p.tables.exec = Jvm.exec) (hb : c.code = code) (hml : c.maxLocals = 7) (hown : s.vm.findClass R_law = some m.cls) (hts : ∀ w ∈ tbG, w.before args s = true) (hG : lwG s D) (S : lwS (lwA s) s D ex ad cl h H locs) (cc : cm_call 70 k2 (vR (sm_ow k2) a :: as2) h (cm_qe (some (vI v)) h2)) (hk : k2 < 245 ∧ k2 ≠ m_Works_term ∧ sm_sta k2 = false ∧ sm_isI k2 = false ∧ sm_ow k2 < 13) (ha : 0 < a) (han : a < ch_n h) (hTa : ch_T h a = sm_ow k2) (has : ∀ v ∈ as2, vok h v) (hna : as2.length = sm_na k2) (hlk : Cond.methodLink R_law idx (sm_y k2) ∈ tbG) (hsz : ls.size = 7) (hsum : (rest.map fun v => v.category).sum ≤ 8) (hd : decode code pc = .ok (.invokevirtual idx, 3)) (bc : ch_c h2 ≤ 600000) (bs : ch_s h2 ≤ 7280000) (ho : o ≤ 1000) (ho6 : o6 ≤ 10000) (ec : cells = ch_c h + o) (es : slots = ch_s h + o6)
    (K : ∀ (ad' : Nat → Nat) (cl' : Nat → ClassId) (H1 : Heap) (locs1 : List Loc), lwS (lwA s) s D ex ad' cl' h2 H1 locs1 → (∀ a, a < ch_n h → ad' a = ad a ∧ ch_T h2 a = ch_T h a) → ch_n h ≤ ch_n h2 → cm_i v → W p l e room_1 s m args below meth c H1 locs1 (ch_c h2 + o) (ch_s h2 + o6) Q (F0 m (pc + 3) ls (.int (Int32.ofInt v) :: rest))) : W p l e room_1 s m args below meth c H locs cells slots Q (F0 m pc ls ((as2.map (en_V ad)).reverse ++ Value.ref (ad a) :: rest)) := by
  obtain ⟨k1, k2', k3, k4, k5⟩ := hk
  have hge : cm_ge h h2 := by
    obtain ⟨r9, h9, ⟨-, e9⟩, b, -⟩ := cm_call_nice 70 _ _ _ _ cc
    rw [e9] at b
    exact b
  have g1 := hge.1
  have g2 := hge.2
  refine lw_callV (R := room_1) (nL := 7) ⟨by show 71 ≤ 2048; decide, by show 4520 ≤ 84000; decide⟩ (fun q z => z) hx hb hml hown hts hG S (sm_meth l 70 k2 _ _ _ _ k1 k2' cc) k1 k3 k4 k5 ha (List.forall_mem_cons.mpr ⟨Or.inr ⟨han, hTa⟩, has⟩) hna hlk hsz hsum hd ⟨by show _ ≤ 601024; omega, by show _ ≤ 7293034; omega⟩ (fun ad' cl' H1 locs1 S1 hex hn hv => ?_)
  refine W.widen (k := ch_c h2 + o) (n := ch_s h2 + o6) (by omega) (by omega) ?_
  exact K ad' cl' H1 locs1 S1 hex hn (hv (vI v) rfl)
end LWX
set_option maxRecDepth 100000 in
theorem law_lk0 : ∀ w ∈ [Cond.methodLink R_law 19 (sm_y m_Works_feed), Cond.methodLink R_law 23 (sm_y m_Model_feed), Cond.methodLink R_law 24 (sm_y m_Works_tables), Cond.methodLink R_law 28 (sm_y m_Model_tables), Cond.methodLink R_law 29 (sm_y m_Works_polynomial), Cond.methodLink R_law 33 (sm_y m_Model_polynomial), Cond.methodLink R_law 34 (sm_y m_Works_group), Cond.methodLink R_law 37 (sm_y m_Model_group), Cond.methodLink R_law 38 (sm_y m_Works_member), Cond.methodLink R_law 41 (sm_y m_Model_member), Cond.methodLink R_law 42 (sm_y m_Works_times), Cond.methodLink R_law 45 (sm_y m_Model_times_), Cond.methodLink R_law 46 (sm_y m_Works_about), Cond.methodLink R_law 49 (sm_y m_Model_about), Cond.methodLink R_law 50 (sm_y m_Works_of), Cond.methodLink R_law 53 (sm_y m_Model_of_), Cond.methodLink R_law 54 (sm_y m_Works_factor), Cond.methodLink R_law 58 (sm_y m_Model_factor), Cond.methodLink R_law 69 (sm_y m_Works_moved), Cond.methodLink R_law 72 (sm_y m_Model_moved), Cond.methodLink R_law 73 (sm_y m_Works_average), Cond.methodLink R_law 76 (sm_y m_Model_average), Cond.methodLink R_law 77 (sm_y m_Works_plus), Cond.methodLink R_law 80 (sm_y m_Model_plus), Cond.methodLink R_law 81 (sm_y m_Works_product), Cond.methodLink R_law 84 (sm_y m_Model_product_), Cond.methodLink R_law 85 (sm_y m_Works_series), Cond.methodLink R_law 88 (sm_y m_Model_series), Cond.methodLink R_law 89 (sm_y m_Works_base), Cond.methodLink R_law 92 (sm_y m_Model_base), Cond.methodLink R_law 93 (sm_y m_Works_isSystem), Cond.methodLink R_law 96 (sm_y m_Model_isSystem), Cond.methodLink R_law 97 (sm_y m_Works_primary), Cond.methodLink R_law 100 (sm_y m_Model_primary), Cond.methodLink R_law 101 (sm_y m_Works_secondaries), Cond.methodLink R_law 104 (sm_y m_Model_secondaries), Cond.methodLink R_law 105 (sm_y m_Works_secondary), Cond.methodLink R_law 108 (sm_y m_Model_secondary), Cond.methodLink R_law 109 (sm_y m_Works_numerator), Cond.methodLink R_law 112 (sm_y m_Model_numerator), Cond.methodLink R_law 113 (sm_y m_Works_rewrite), Cond.methodLink R_law 116 (sm_y m_Model_rewrite), Cond.methodLink R_law 117 (sm_y m_Works_rewritten), Cond.methodLink R_law 120 (sm_y m_Model_rewritten), Cond.methodLink R_law 121 (sm_y m_Works_relation), Cond.methodLink R_law 125 (sm_y m_Model_relation), Cond.methodLink R_law 126 (sm_y m_Works_count), Cond.methodLink R_law 129 (sm_y m_Model_count), Cond.methodLink R_law 64 (sm_y m_Model_term), Cond.methodLink R_law 65 (sm_y m_Model_thrown)], w ∈ lw_tbl ∧ goodWord w = true := by decide +kernel
theorem law_lk : ∀ w ∈ [Cond.methodLink R_law 19 (sm_y m_Works_feed), Cond.methodLink R_law 23 (sm_y m_Model_feed), Cond.methodLink R_law 24 (sm_y m_Works_tables), Cond.methodLink R_law 28 (sm_y m_Model_tables), Cond.methodLink R_law 29 (sm_y m_Works_polynomial), Cond.methodLink R_law 33 (sm_y m_Model_polynomial), Cond.methodLink R_law 34 (sm_y m_Works_group), Cond.methodLink R_law 37 (sm_y m_Model_group), Cond.methodLink R_law 38 (sm_y m_Works_member), Cond.methodLink R_law 41 (sm_y m_Model_member), Cond.methodLink R_law 42 (sm_y m_Works_times), Cond.methodLink R_law 45 (sm_y m_Model_times_), Cond.methodLink R_law 46 (sm_y m_Works_about), Cond.methodLink R_law 49 (sm_y m_Model_about), Cond.methodLink R_law 50 (sm_y m_Works_of), Cond.methodLink R_law 53 (sm_y m_Model_of_), Cond.methodLink R_law 54 (sm_y m_Works_factor), Cond.methodLink R_law 58 (sm_y m_Model_factor), Cond.methodLink R_law 69 (sm_y m_Works_moved), Cond.methodLink R_law 72 (sm_y m_Model_moved), Cond.methodLink R_law 73 (sm_y m_Works_average), Cond.methodLink R_law 76 (sm_y m_Model_average), Cond.methodLink R_law 77 (sm_y m_Works_plus), Cond.methodLink R_law 80 (sm_y m_Model_plus), Cond.methodLink R_law 81 (sm_y m_Works_product), Cond.methodLink R_law 84 (sm_y m_Model_product_), Cond.methodLink R_law 85 (sm_y m_Works_series), Cond.methodLink R_law 88 (sm_y m_Model_series), Cond.methodLink R_law 89 (sm_y m_Works_base), Cond.methodLink R_law 92 (sm_y m_Model_base), Cond.methodLink R_law 93 (sm_y m_Works_isSystem), Cond.methodLink R_law 96 (sm_y m_Model_isSystem), Cond.methodLink R_law 97 (sm_y m_Works_primary), Cond.methodLink R_law 100 (sm_y m_Model_primary), Cond.methodLink R_law 101 (sm_y m_Works_secondaries), Cond.methodLink R_law 104 (sm_y m_Model_secondaries), Cond.methodLink R_law 105 (sm_y m_Works_secondary), Cond.methodLink R_law 108 (sm_y m_Model_secondary), Cond.methodLink R_law 109 (sm_y m_Works_numerator), Cond.methodLink R_law 112 (sm_y m_Model_numerator), Cond.methodLink R_law 113 (sm_y m_Works_rewrite), Cond.methodLink R_law 116 (sm_y m_Model_rewrite), Cond.methodLink R_law 117 (sm_y m_Works_rewritten), Cond.methodLink R_law 120 (sm_y m_Model_rewritten), Cond.methodLink R_law 121 (sm_y m_Works_relation), Cond.methodLink R_law 125 (sm_y m_Model_relation), Cond.methodLink R_law 126 (sm_y m_Works_count), Cond.methodLink R_law 129 (sm_y m_Model_count), Cond.methodLink R_law 64 (sm_y m_Model_term), Cond.methodLink R_law 65 (sm_y m_Model_thrown)], w ∈ tbG := fun w hw => List.mem_filter.mpr (law_lk0 w hw)
section LWK
variable {p : Program} {l : Launch} {e : Env} {s : State} {m : MethodId} {below : List Frame} {meth : Method} {c : Code} {Q : State → Prop} {D : va_G} {ad : Nat → Nat} {cl : Nat → ClassId} {H : Heap} {locs : List Loc} {ls : Array Slot} {b L i t qo q1 q2 : Nat} {xs : Nat → Int32} {cA : ClassId} {zs z : cm_Z} {I : cm_I} {f : Nat → Int64}
theorem lc_0 (C : lwC l p s m meth c b L xs D cA) (hB : lwB zs) (hi : i + 7 ≤ L) (ht : t ≤ 512) (N : lwN s D cA b qo q1 q2 i zs z I ad cl H locs ls f) (K : ∀ (z1 : cm_Z) (I1 : cm_I) (ad1 : Nat → Nat) (cl1 : Nat → ClassId) (H1 : Heap) (locs1 : List Loc) (ls1 : Array Slot) (f1 : Nat → Int64) (t1 : Nat), t1 ≤ t + 1 → lwN s D cA b qo q1 q2 i zs z1 I1 ad1 cl1 H1 locs1 ls1 f1 → W p l e room_1 s m #[Value.ref b] below meth c H1 locs1 (zC z1 + (1 + t1)) (zS z1 + (1 + 6 * t1)) Q (F0 m 1246 ls1 [])) : W p l e room_1 s m #[Value.ref b] below meth c H locs (zC z + (1 + t)) (zS z + (1 + 6 * t)) Q (F0 m 156 ls []) := by
  obtain ⟨hx, hb, hml, hown, hts, hX, hbl, hG, hKl, hT, hst, hL⟩ := C
  obtain ⟨j, u, S, e1, e2, T1, T2, hl⟩ := N
  obtain ⟨v, I1, z1, I2, c1, c2, j2, u2⟩ := j_feed j (xs (i + 1)).toInt (xs (i + 2)).toInt (xs (i + 3)).toInt (xs (i + 4)).toInt (xs (i + 5)).toInt
  have bd := hB z1 I2 (usW_trans u u2) j2
  have n0 := jW_N j
  refine lv_aload_n hx hb dl_156 rfl (lv_at hl 3 rfl) ?_
  refine lw_arg (j := 1) hx hb hX hbl S.2.2.1 (lv_at hl 4 rfl) (lv_at hl 0 rfl) (by omega) hL (by decide) dl_157 dl_158 dl_160 dl_161 dl_162 ?_
  refine lw_arg (j := 2) hx hb hX hbl S.2.2.1 (lv_at hl 4 rfl) (lv_at hl 0 rfl) (by omega) hL (by decide) dl_163 dl_164 dl_166 dl_167 dl_168 ?_
  refine lw_arg (j := 3) hx hb hX hbl S.2.2.1 (lv_at hl 4 rfl) (lv_at hl 0 rfl) (by omega) hL (by decide) dl_169 dl_170 dl_172 dl_173 dl_174 ?_
  refine lw_arg (j := 4) hx hb hX hbl S.2.2.1 (lv_at hl 4 rfl) (lv_at hl 0 rfl) (by omega) hL (by decide) dl_175 dl_176 dl_178 dl_179 dl_180 ?_
  refine lw_arg (j := 5) hx hb hX hbl S.2.2.1 (lv_at hl 4 rfl) (lv_at hl 0 rfl) (by omega) hL (by decide) dl_181 dl_182 dl_184 dl_185 dl_186 ?_
  rw [← e1]
  refine lw_cx (as2 := [vI (xs (i + 1)).toInt, vI (xs (i + 2)).toInt, vI (xs (i + 3)).toInt, vI (xs (i + 4)).toInt, vI (xs (i + 5)).toInt]) (rest := []) (k2 := m_Works_feed) (a := 1) hx hb hml hown hts hG S c1 (by decide +kernel) (by decide) (show 1 < zN z by omega) T1 (by intro x hx; simp only [List.mem_cons, List.not_mem_nil, or_false] at hx; (rcases hx with rfl | rfl | rfl | rfl | rfl <;> exact t32i _)) (show 5 = sm_na m_Works_feed by decide +kernel) (law_lk _ (List.mem_of_getElem? (i := 0) rfl)) hl.1 (by decide) dl_187 bd.1 bd.2 (show 1 + t ≤ 1000 by omega) (show 1 + 6 * t ≤ 10000 by omega) rfl rfl (fun ad1 cl1 H1 locs1 S1 hex hn _ => ?_)
  have S := S1
  refine lv_aload_n hx hb dl_190 rfl (lv_at hl 2 rfl) ?_
  refine lw_arg (j := 1) hx hb hX hbl S.2.2.1 (lv_at hl 4 rfl) (lv_at hl 0 rfl) (by omega) hL (by decide) dl_191 dl_192 dl_194 dl_195 dl_196 ?_
  refine lw_arg (j := 2) hx hb hX hbl S.2.2.1 (lv_at hl 4 rfl) (lv_at hl 0 rfl) (by omega) hL (by decide) dl_197 dl_198 dl_200 dl_201 dl_202 ?_
  refine lw_arg (j := 3) hx hb hX hbl S.2.2.1 (lv_at hl 4 rfl) (lv_at hl 0 rfl) (by omega) hL (by decide) dl_203 dl_204 dl_206 dl_207 dl_208 ?_
  refine lw_arg (j := 4) hx hb hX hbl S.2.2.1 (lv_at hl 4 rfl) (lv_at hl 0 rfl) (by omega) hL (by decide) dl_209 dl_210 dl_212 dl_213 dl_214 ?_
  refine lw_arg (j := 5) hx hb hX hbl S.2.2.1 (lv_at hl 4 rfl) (lv_at hl 0 rfl) (by omega) hL (by decide) dl_215 dl_216 dl_218 dl_219 dl_220 ?_
  rw [← e2, ← (hex 209 (show 209 < zN z by omega)).1]
  refine lw_cx (as2 := [vI (xs (i + 1)).toInt, vI (xs (i + 2)).toInt, vI (xs (i + 3)).toInt, vI (xs (i + 4)).toInt, vI (xs (i + 5)).toInt]) (rest := [.int (Int32.ofInt v)]) (k2 := m_Model_feed) (a := 209) hx hb hml hown hts hG S c2 (by decide +kernel) (by decide) (show 209 < zN z1 by have := (show zN z ≤ zN z1 from hn); omega) ((hex 209 (show 209 < zN z by omega)).2.trans T2) (by intro x hx; simp only [List.mem_cons, List.not_mem_nil, or_false] at hx; (rcases hx with rfl | rfl | rfl | rfl | rfl <;> exact t32i _)) (show 5 = sm_na m_Model_feed by decide +kernel) (law_lk _ (List.mem_of_getElem? (i := 1) rfl)) hl.1 (show 1 + 0 ≤ 8 by decide) dl_221 bd.1 bd.2 (show 1 + t ≤ 1000 by omega) (show 1 + 6 * t ≤ 10000 by omega) rfl rfl (fun ad2 cl2 H2 locs2 S2 hex2 hn2 _ => ?_)
  refine lv_icmp_eq (tgt := 1246) hx hb dl_224 (by decide) (fun _ => ?_) (fun q => absurd rfl q)
  have n1 : zN z ≤ zN z1 := hn
  refine K z1 I2 ad2 cl2 H2 locs2 ls f t (Nat.le_succ _) ⟨j2, usW_trans u u2, S2, ?_, ?_, ?_, ?_, hl⟩
  · rw [(hex2 1 (show 1 < zN z1 by omega)).1, (hex 1 (show 1 < zN z by omega)).1]; exact e1
  · rw [(hex2 209 (show 209 < zN z1 by omega)).1, (hex 209 (show 209 < zN z by omega)).1]; exact e2
  · exact ((hex 1 (show 1 < zN z by omega)).2).trans T1
  · exact ((hex 209 (show 209 < zN z by omega)).2).trans T2
theorem lc_1 (C : lwC l p s m meth c b L xs D cA) (hB : lwB zs) (hi : i + 7 ≤ L) (ht : t ≤ 512) (N : lwN s D cA b qo q1 q2 i zs z I ad cl H locs ls f) (K : ∀ (z1 : cm_Z) (I1 : cm_I) (ad1 : Nat → Nat) (cl1 : Nat → ClassId) (H1 : Heap) (locs1 : List Loc) (ls1 : Array Slot) (f1 : Nat → Int64) (t1 : Nat), t1 ≤ t + 1 → lwN s D cA b qo q1 q2 i zs z1 I1 ad1 cl1 H1 locs1 ls1 f1 → W p l e room_1 s m #[Value.ref b] below meth c H1 locs1 (zC z1 + (1 + t1)) (zS z1 + (1 + 6 * t1)) Q (F0 m 1246 ls1 [])) : W p l e room_1 s m #[Value.ref b] below meth c H locs (zC z + (1 + t)) (zS z + (1 + 6 * t)) Q (F0 m 229 ls []) := by
  obtain ⟨hx, hb, hml, hown, hts, hX, hbl, hG, hKl, hT, hst, hL⟩ := C
  obtain ⟨j, u, S, e1, e2, T1, T2, hl⟩ := N
  obtain ⟨v, I1, z1, I2, c1, c2, j2, u2⟩ := j_tables j (xs (i + 1)).toInt
  have bd := hB z1 I2 (usW_trans u u2) j2
  have n0 := jW_N j
  refine lv_aload_n hx hb dl_229 rfl (lv_at hl 3 rfl) ?_
  refine lw_arg (j := 1) hx hb hX hbl S.2.2.1 (lv_at hl 4 rfl) (lv_at hl 0 rfl) (by omega) hL (by decide) dl_230 dl_231 dl_233 dl_234 dl_235 ?_
  rw [← e1]
  refine lw_cx (as2 := [vI (xs (i + 1)).toInt]) (rest := []) (k2 := m_Works_tables) (a := 1) hx hb hml hown hts hG S c1 (by decide +kernel) (by decide) (show 1 < zN z by omega) T1 (by intro x hx; simp only [List.mem_cons, List.not_mem_nil, or_false] at hx; (rcases hx with rfl <;> exact t32i _)) (show 1 = sm_na m_Works_tables by decide +kernel) (law_lk _ (List.mem_of_getElem? (i := 2) rfl)) hl.1 (by decide) dl_236 bd.1 bd.2 (show 1 + t ≤ 1000 by omega) (show 1 + 6 * t ≤ 10000 by omega) rfl rfl (fun ad1 cl1 H1 locs1 S1 hex hn _ => ?_)
  have S := S1
  refine lv_aload_n hx hb dl_239 rfl (lv_at hl 2 rfl) ?_
  refine lw_arg (j := 1) hx hb hX hbl S.2.2.1 (lv_at hl 4 rfl) (lv_at hl 0 rfl) (by omega) hL (by decide) dl_240 dl_241 dl_243 dl_244 dl_245 ?_
  rw [← e2, ← (hex 209 (show 209 < zN z by omega)).1]
  refine lw_cx (as2 := [vI (xs (i + 1)).toInt]) (rest := [.int (Int32.ofInt v)]) (k2 := m_Model_tables) (a := 209) hx hb hml hown hts hG S c2 (by decide +kernel) (by decide) (show 209 < zN z1 by have := (show zN z ≤ zN z1 from hn); omega) ((hex 209 (show 209 < zN z by omega)).2.trans T2) (by intro x hx; simp only [List.mem_cons, List.not_mem_nil, or_false] at hx; (rcases hx with rfl <;> exact t32i _)) (show 1 = sm_na m_Model_tables by decide +kernel) (law_lk _ (List.mem_of_getElem? (i := 3) rfl)) hl.1 (show 1 + 0 ≤ 8 by decide) dl_246 bd.1 bd.2 (show 1 + t ≤ 1000 by omega) (show 1 + 6 * t ≤ 10000 by omega) rfl rfl (fun ad2 cl2 H2 locs2 S2 hex2 hn2 _ => ?_)
  refine lv_icmp_eq (tgt := 1246) hx hb dl_249 (by decide) (fun _ => ?_) (fun q => absurd rfl q)
  have n1 : zN z ≤ zN z1 := hn
  refine K z1 I2 ad2 cl2 H2 locs2 ls f t (Nat.le_succ _) ⟨j2, usW_trans u u2, S2, ?_, ?_, ?_, ?_, hl⟩
  · rw [(hex2 1 (show 1 < zN z1 by omega)).1, (hex 1 (show 1 < zN z by omega)).1]; exact e1
  · rw [(hex2 209 (show 209 < zN z1 by omega)).1, (hex 209 (show 209 < zN z by omega)).1]; exact e2
  · exact ((hex 1 (show 1 < zN z by omega)).2).trans T1
  · exact ((hex 209 (show 209 < zN z by omega)).2).trans T2
theorem lc_2 (C : lwC l p s m meth c b L xs D cA) (hB : lwB zs) (hi : i + 7 ≤ L) (ht : t ≤ 512) (N : lwN s D cA b qo q1 q2 i zs z I ad cl H locs ls f) (K : ∀ (z1 : cm_Z) (I1 : cm_I) (ad1 : Nat → Nat) (cl1 : Nat → ClassId) (H1 : Heap) (locs1 : List Loc) (ls1 : Array Slot) (f1 : Nat → Int64) (t1 : Nat), t1 ≤ t + 1 → lwN s D cA b qo q1 q2 i zs z1 I1 ad1 cl1 H1 locs1 ls1 f1 → W p l e room_1 s m #[Value.ref b] below meth c H1 locs1 (zC z1 + (1 + t1)) (zS z1 + (1 + 6 * t1)) Q (F0 m 1246 ls1 [])) : W p l e room_1 s m #[Value.ref b] below meth c H locs (zC z + (1 + t)) (zS z + (1 + 6 * t)) Q (F0 m 254 ls []) := by
  obtain ⟨hx, hb, hml, hown, hts, hX, hbl, hG, hKl, hT, hst, hL⟩ := C
  obtain ⟨j, u, S, e1, e2, T1, T2, hl⟩ := N
  obtain ⟨v, I1, z1, I2, c1, c2, j2, u2⟩ := j_polynomial j (xs (i + 1)).toInt (xs (i + 2)).toInt
  have bd := hB z1 I2 (usW_trans u u2) j2
  have n0 := jW_N j
  refine lv_aload_n hx hb dl_254 rfl (lv_at hl 3 rfl) ?_
  refine lw_arg (j := 1) hx hb hX hbl S.2.2.1 (lv_at hl 4 rfl) (lv_at hl 0 rfl) (by omega) hL (by decide) dl_255 dl_256 dl_258 dl_259 dl_260 ?_
  refine lw_arg (j := 2) hx hb hX hbl S.2.2.1 (lv_at hl 4 rfl) (lv_at hl 0 rfl) (by omega) hL (by decide) dl_261 dl_262 dl_264 dl_265 dl_266 ?_
  rw [← e1]
  refine lw_cx (as2 := [vI (xs (i + 1)).toInt, vI (xs (i + 2)).toInt]) (rest := []) (k2 := m_Works_polynomial) (a := 1) hx hb hml hown hts hG S c1 (by decide +kernel) (by decide) (show 1 < zN z by omega) T1 (by intro x hx; simp only [List.mem_cons, List.not_mem_nil, or_false] at hx; (rcases hx with rfl | rfl <;> exact t32i _)) (show 2 = sm_na m_Works_polynomial by decide +kernel) (law_lk _ (List.mem_of_getElem? (i := 4) rfl)) hl.1 (by decide) dl_267 bd.1 bd.2 (show 1 + t ≤ 1000 by omega) (show 1 + 6 * t ≤ 10000 by omega) rfl rfl (fun ad1 cl1 H1 locs1 S1 hex hn _ => ?_)
  have S := S1
  refine lv_aload_n hx hb dl_270 rfl (lv_at hl 2 rfl) ?_
  refine lw_arg (j := 1) hx hb hX hbl S.2.2.1 (lv_at hl 4 rfl) (lv_at hl 0 rfl) (by omega) hL (by decide) dl_271 dl_272 dl_274 dl_275 dl_276 ?_
  refine lw_arg (j := 2) hx hb hX hbl S.2.2.1 (lv_at hl 4 rfl) (lv_at hl 0 rfl) (by omega) hL (by decide) dl_277 dl_278 dl_280 dl_281 dl_282 ?_
  rw [← e2, ← (hex 209 (show 209 < zN z by omega)).1]
  refine lw_cx (as2 := [vI (xs (i + 1)).toInt, vI (xs (i + 2)).toInt]) (rest := [.int (Int32.ofInt v)]) (k2 := m_Model_polynomial) (a := 209) hx hb hml hown hts hG S c2 (by decide +kernel) (by decide) (show 209 < zN z1 by have := (show zN z ≤ zN z1 from hn); omega) ((hex 209 (show 209 < zN z by omega)).2.trans T2) (by intro x hx; simp only [List.mem_cons, List.not_mem_nil, or_false] at hx; (rcases hx with rfl | rfl <;> exact t32i _)) (show 2 = sm_na m_Model_polynomial by decide +kernel) (law_lk _ (List.mem_of_getElem? (i := 5) rfl)) hl.1 (show 1 + 0 ≤ 8 by decide) dl_283 bd.1 bd.2 (show 1 + t ≤ 1000 by omega) (show 1 + 6 * t ≤ 10000 by omega) rfl rfl (fun ad2 cl2 H2 locs2 S2 hex2 hn2 _ => ?_)
  refine lv_icmp_eq (tgt := 1246) hx hb dl_286 (by decide) (fun _ => ?_) (fun q => absurd rfl q)
  have n1 : zN z ≤ zN z1 := hn
  refine K z1 I2 ad2 cl2 H2 locs2 ls f t (Nat.le_succ _) ⟨j2, usW_trans u u2, S2, ?_, ?_, ?_, ?_, hl⟩
  · rw [(hex2 1 (show 1 < zN z1 by omega)).1, (hex 1 (show 1 < zN z by omega)).1]; exact e1
  · rw [(hex2 209 (show 209 < zN z1 by omega)).1, (hex 209 (show 209 < zN z by omega)).1]; exact e2
  · exact ((hex 1 (show 1 < zN z by omega)).2).trans T1
  · exact ((hex 209 (show 209 < zN z by omega)).2).trans T2
theorem lc_3 (C : lwC l p s m meth c b L xs D cA) (hB : lwB zs) (hi : i + 7 ≤ L) (ht : t ≤ 512) (N : lwN s D cA b qo q1 q2 i zs z I ad cl H locs ls f) (K : ∀ (z1 : cm_Z) (I1 : cm_I) (ad1 : Nat → Nat) (cl1 : Nat → ClassId) (H1 : Heap) (locs1 : List Loc) (ls1 : Array Slot) (f1 : Nat → Int64) (t1 : Nat), t1 ≤ t + 1 → lwN s D cA b qo q1 q2 i zs z1 I1 ad1 cl1 H1 locs1 ls1 f1 → W p l e room_1 s m #[Value.ref b] below meth c H1 locs1 (zC z1 + (1 + t1)) (zS z1 + (1 + 6 * t1)) Q (F0 m 1246 ls1 [])) : W p l e room_1 s m #[Value.ref b] below meth c H locs (zC z + (1 + t)) (zS z + (1 + 6 * t)) Q (F0 m 291 ls []) := by
  obtain ⟨hx, hb, hml, hown, hts, hX, hbl, hG, hKl, hT, hst, hL⟩ := C
  obtain ⟨j, u, S, e1, e2, T1, T2, hl⟩ := N
  obtain ⟨v, I1, z1, I2, c1, c2, j2, u2⟩ := j_group j (xs (i + 1)).toInt
  have bd := hB z1 I2 (usW_trans u u2) j2
  have n0 := jW_N j
  refine lv_aload_n hx hb dl_291 rfl (lv_at hl 3 rfl) ?_
  refine lw_arg (j := 1) hx hb hX hbl S.2.2.1 (lv_at hl 4 rfl) (lv_at hl 0 rfl) (by omega) hL (by decide) dl_292 dl_293 dl_295 dl_296 dl_297 ?_
  rw [← e1]
  refine lw_cx (as2 := [vI (xs (i + 1)).toInt]) (rest := []) (k2 := m_Works_group) (a := 1) hx hb hml hown hts hG S c1 (by decide +kernel) (by decide) (show 1 < zN z by omega) T1 (by intro x hx; simp only [List.mem_cons, List.not_mem_nil, or_false] at hx; (rcases hx with rfl <;> exact t32i _)) (show 1 = sm_na m_Works_group by decide +kernel) (law_lk _ (List.mem_of_getElem? (i := 6) rfl)) hl.1 (by decide) dl_298 bd.1 bd.2 (show 1 + t ≤ 1000 by omega) (show 1 + 6 * t ≤ 10000 by omega) rfl rfl (fun ad1 cl1 H1 locs1 S1 hex hn _ => ?_)
  have S := S1
  refine lv_aload_n hx hb dl_301 rfl (lv_at hl 2 rfl) ?_
  refine lw_arg (j := 1) hx hb hX hbl S.2.2.1 (lv_at hl 4 rfl) (lv_at hl 0 rfl) (by omega) hL (by decide) dl_302 dl_303 dl_305 dl_306 dl_307 ?_
  rw [← e2, ← (hex 209 (show 209 < zN z by omega)).1]
  refine lw_cx (as2 := [vI (xs (i + 1)).toInt]) (rest := [.int (Int32.ofInt v)]) (k2 := m_Model_group) (a := 209) hx hb hml hown hts hG S c2 (by decide +kernel) (by decide) (show 209 < zN z1 by have := (show zN z ≤ zN z1 from hn); omega) ((hex 209 (show 209 < zN z by omega)).2.trans T2) (by intro x hx; simp only [List.mem_cons, List.not_mem_nil, or_false] at hx; (rcases hx with rfl <;> exact t32i _)) (show 1 = sm_na m_Model_group by decide +kernel) (law_lk _ (List.mem_of_getElem? (i := 7) rfl)) hl.1 (show 1 + 0 ≤ 8 by decide) dl_308 bd.1 bd.2 (show 1 + t ≤ 1000 by omega) (show 1 + 6 * t ≤ 10000 by omega) rfl rfl (fun ad2 cl2 H2 locs2 S2 hex2 hn2 _ => ?_)
  refine lv_icmp_eq (tgt := 1246) hx hb dl_311 (by decide) (fun _ => ?_) (fun q => absurd rfl q)
  have n1 : zN z ≤ zN z1 := hn
  refine K z1 I2 ad2 cl2 H2 locs2 ls f t (Nat.le_succ _) ⟨j2, usW_trans u u2, S2, ?_, ?_, ?_, ?_, hl⟩
  · rw [(hex2 1 (show 1 < zN z1 by omega)).1, (hex 1 (show 1 < zN z by omega)).1]; exact e1
  · rw [(hex2 209 (show 209 < zN z1 by omega)).1, (hex 209 (show 209 < zN z by omega)).1]; exact e2
  · exact ((hex 1 (show 1 < zN z by omega)).2).trans T1
  · exact ((hex 209 (show 209 < zN z by omega)).2).trans T2
theorem lc_4 (C : lwC l p s m meth c b L xs D cA) (hB : lwB zs) (hi : i + 7 ≤ L) (ht : t ≤ 512) (N : lwN s D cA b qo q1 q2 i zs z I ad cl H locs ls f) (K : ∀ (z1 : cm_Z) (I1 : cm_I) (ad1 : Nat → Nat) (cl1 : Nat → ClassId) (H1 : Heap) (locs1 : List Loc) (ls1 : Array Slot) (f1 : Nat → Int64) (t1 : Nat), t1 ≤ t + 1 → lwN s D cA b qo q1 q2 i zs z1 I1 ad1 cl1 H1 locs1 ls1 f1 → W p l e room_1 s m #[Value.ref b] below meth c H1 locs1 (zC z1 + (1 + t1)) (zS z1 + (1 + 6 * t1)) Q (F0 m 1246 ls1 [])) : W p l e room_1 s m #[Value.ref b] below meth c H locs (zC z + (1 + t)) (zS z + (1 + 6 * t)) Q (F0 m 316 ls []) := by
  obtain ⟨hx, hb, hml, hown, hts, hX, hbl, hG, hKl, hT, hst, hL⟩ := C
  obtain ⟨j, u, S, e1, e2, T1, T2, hl⟩ := N
  obtain ⟨v, I1, z1, I2, c1, c2, j2, u2⟩ := j_member j (xs (i + 1)).toInt (xs (i + 2)).toInt (xs (i + 3)).toInt
  have bd := hB z1 I2 (usW_trans u u2) j2
  have n0 := jW_N j
  refine lv_aload_n hx hb dl_316 rfl (lv_at hl 3 rfl) ?_
  refine lw_arg (j := 1) hx hb hX hbl S.2.2.1 (lv_at hl 4 rfl) (lv_at hl 0 rfl) (by omega) hL (by decide) dl_317 dl_318 dl_320 dl_321 dl_322 ?_
  refine lw_arg (j := 2) hx hb hX hbl S.2.2.1 (lv_at hl 4 rfl) (lv_at hl 0 rfl) (by omega) hL (by decide) dl_323 dl_324 dl_326 dl_327 dl_328 ?_
  refine lw_arg (j := 3) hx hb hX hbl S.2.2.1 (lv_at hl 4 rfl) (lv_at hl 0 rfl) (by omega) hL (by decide) dl_329 dl_330 dl_332 dl_333 dl_334 ?_
  rw [← e1]
  refine lw_cx (as2 := [vI (xs (i + 1)).toInt, vI (xs (i + 2)).toInt, vI (xs (i + 3)).toInt]) (rest := []) (k2 := m_Works_member) (a := 1) hx hb hml hown hts hG S c1 (by decide +kernel) (by decide) (show 1 < zN z by omega) T1 (by intro x hx; simp only [List.mem_cons, List.not_mem_nil, or_false] at hx; (rcases hx with rfl | rfl | rfl <;> exact t32i _)) (show 3 = sm_na m_Works_member by decide +kernel) (law_lk _ (List.mem_of_getElem? (i := 8) rfl)) hl.1 (by decide) dl_335 bd.1 bd.2 (show 1 + t ≤ 1000 by omega) (show 1 + 6 * t ≤ 10000 by omega) rfl rfl (fun ad1 cl1 H1 locs1 S1 hex hn _ => ?_)
  have S := S1
  refine lv_aload_n hx hb dl_338 rfl (lv_at hl 2 rfl) ?_
  refine lw_arg (j := 1) hx hb hX hbl S.2.2.1 (lv_at hl 4 rfl) (lv_at hl 0 rfl) (by omega) hL (by decide) dl_339 dl_340 dl_342 dl_343 dl_344 ?_
  refine lw_arg (j := 2) hx hb hX hbl S.2.2.1 (lv_at hl 4 rfl) (lv_at hl 0 rfl) (by omega) hL (by decide) dl_345 dl_346 dl_348 dl_349 dl_350 ?_
  refine lw_arg (j := 3) hx hb hX hbl S.2.2.1 (lv_at hl 4 rfl) (lv_at hl 0 rfl) (by omega) hL (by decide) dl_351 dl_352 dl_354 dl_355 dl_356 ?_
  rw [← e2, ← (hex 209 (show 209 < zN z by omega)).1]
  refine lw_cx (as2 := [vI (xs (i + 1)).toInt, vI (xs (i + 2)).toInt, vI (xs (i + 3)).toInt]) (rest := [.int (Int32.ofInt v)]) (k2 := m_Model_member) (a := 209) hx hb hml hown hts hG S c2 (by decide +kernel) (by decide) (show 209 < zN z1 by have := (show zN z ≤ zN z1 from hn); omega) ((hex 209 (show 209 < zN z by omega)).2.trans T2) (by intro x hx; simp only [List.mem_cons, List.not_mem_nil, or_false] at hx; (rcases hx with rfl | rfl | rfl <;> exact t32i _)) (show 3 = sm_na m_Model_member by decide +kernel) (law_lk _ (List.mem_of_getElem? (i := 9) rfl)) hl.1 (show 1 + 0 ≤ 8 by decide) dl_357 bd.1 bd.2 (show 1 + t ≤ 1000 by omega) (show 1 + 6 * t ≤ 10000 by omega) rfl rfl (fun ad2 cl2 H2 locs2 S2 hex2 hn2 _ => ?_)
  refine lv_icmp_eq (tgt := 1246) hx hb dl_360 (by decide) (fun _ => ?_) (fun q => absurd rfl q)
  have n1 : zN z ≤ zN z1 := hn
  refine K z1 I2 ad2 cl2 H2 locs2 ls f t (Nat.le_succ _) ⟨j2, usW_trans u u2, S2, ?_, ?_, ?_, ?_, hl⟩
  · rw [(hex2 1 (show 1 < zN z1 by omega)).1, (hex 1 (show 1 < zN z by omega)).1]; exact e1
  · rw [(hex2 209 (show 209 < zN z1 by omega)).1, (hex 209 (show 209 < zN z by omega)).1]; exact e2
  · exact ((hex 1 (show 1 < zN z by omega)).2).trans T1
  · exact ((hex 209 (show 209 < zN z by omega)).2).trans T2
theorem lc_5 (C : lwC l p s m meth c b L xs D cA) (hB : lwB zs) (hi : i + 7 ≤ L) (ht : t ≤ 512) (N : lwN s D cA b qo q1 q2 i zs z I ad cl H locs ls f) (K : ∀ (z1 : cm_Z) (I1 : cm_I) (ad1 : Nat → Nat) (cl1 : Nat → ClassId) (H1 : Heap) (locs1 : List Loc) (ls1 : Array Slot) (f1 : Nat → Int64) (t1 : Nat), t1 ≤ t + 1 → lwN s D cA b qo q1 q2 i zs z1 I1 ad1 cl1 H1 locs1 ls1 f1 → W p l e room_1 s m #[Value.ref b] below meth c H1 locs1 (zC z1 + (1 + t1)) (zS z1 + (1 + 6 * t1)) Q (F0 m 1246 ls1 [])) : W p l e room_1 s m #[Value.ref b] below meth c H locs (zC z + (1 + t)) (zS z + (1 + 6 * t)) Q (F0 m 365 ls []) := by
  obtain ⟨hx, hb, hml, hown, hts, hX, hbl, hG, hKl, hT, hst, hL⟩ := C
  obtain ⟨j, u, S, e1, e2, T1, T2, hl⟩ := N
  obtain ⟨v, I1, z1, I2, c1, c2, j2, u2⟩ := j_times j (xs (i + 1)).toInt (xs (i + 2)).toInt
  have bd := hB z1 I2 (usW_trans u u2) j2
  have n0 := jW_N j
  refine lv_aload_n hx hb dl_365 rfl (lv_at hl 3 rfl) ?_
  refine lw_arg (j := 1) hx hb hX hbl S.2.2.1 (lv_at hl 4 rfl) (lv_at hl 0 rfl) (by omega) hL (by decide) dl_366 dl_367 dl_369 dl_370 dl_371 ?_
  refine lw_arg (j := 2) hx hb hX hbl S.2.2.1 (lv_at hl 4 rfl) (lv_at hl 0 rfl) (by omega) hL (by decide) dl_372 dl_373 dl_375 dl_376 dl_377 ?_
  rw [← e1]
  refine lw_cx (as2 := [vI (xs (i + 1)).toInt, vI (xs (i + 2)).toInt]) (rest := []) (k2 := m_Works_times) (a := 1) hx hb hml hown hts hG S c1 (by decide +kernel) (by decide) (show 1 < zN z by omega) T1 (by intro x hx; simp only [List.mem_cons, List.not_mem_nil, or_false] at hx; (rcases hx with rfl | rfl <;> exact t32i _)) (show 2 = sm_na m_Works_times by decide +kernel) (law_lk _ (List.mem_of_getElem? (i := 10) rfl)) hl.1 (by decide) dl_378 bd.1 bd.2 (show 1 + t ≤ 1000 by omega) (show 1 + 6 * t ≤ 10000 by omega) rfl rfl (fun ad1 cl1 H1 locs1 S1 hex hn _ => ?_)
  have S := S1
  refine lv_aload_n hx hb dl_381 rfl (lv_at hl 2 rfl) ?_
  refine lw_arg (j := 1) hx hb hX hbl S.2.2.1 (lv_at hl 4 rfl) (lv_at hl 0 rfl) (by omega) hL (by decide) dl_382 dl_383 dl_385 dl_386 dl_387 ?_
  refine lw_arg (j := 2) hx hb hX hbl S.2.2.1 (lv_at hl 4 rfl) (lv_at hl 0 rfl) (by omega) hL (by decide) dl_388 dl_389 dl_391 dl_392 dl_393 ?_
  rw [← e2, ← (hex 209 (show 209 < zN z by omega)).1]
  refine lw_cx (as2 := [vI (xs (i + 1)).toInt, vI (xs (i + 2)).toInt]) (rest := [.int (Int32.ofInt v)]) (k2 := m_Model_times_) (a := 209) hx hb hml hown hts hG S c2 (by decide +kernel) (by decide) (show 209 < zN z1 by have := (show zN z ≤ zN z1 from hn); omega) ((hex 209 (show 209 < zN z by omega)).2.trans T2) (by intro x hx; simp only [List.mem_cons, List.not_mem_nil, or_false] at hx; (rcases hx with rfl | rfl <;> exact t32i _)) (show 2 = sm_na m_Model_times_ by decide +kernel) (law_lk _ (List.mem_of_getElem? (i := 11) rfl)) hl.1 (show 1 + 0 ≤ 8 by decide) dl_394 bd.1 bd.2 (show 1 + t ≤ 1000 by omega) (show 1 + 6 * t ≤ 10000 by omega) rfl rfl (fun ad2 cl2 H2 locs2 S2 hex2 hn2 _ => ?_)
  refine lv_icmp_eq (tgt := 1246) hx hb dl_397 (by decide) (fun _ => ?_) (fun q => absurd rfl q)
  have n1 : zN z ≤ zN z1 := hn
  refine K z1 I2 ad2 cl2 H2 locs2 ls f t (Nat.le_succ _) ⟨j2, usW_trans u u2, S2, ?_, ?_, ?_, ?_, hl⟩
  · rw [(hex2 1 (show 1 < zN z1 by omega)).1, (hex 1 (show 1 < zN z by omega)).1]; exact e1
  · rw [(hex2 209 (show 209 < zN z1 by omega)).1, (hex 209 (show 209 < zN z by omega)).1]; exact e2
  · exact ((hex 1 (show 1 < zN z by omega)).2).trans T1
  · exact ((hex 209 (show 209 < zN z by omega)).2).trans T2
theorem lc_6 (C : lwC l p s m meth c b L xs D cA) (hB : lwB zs) (hi : i + 7 ≤ L) (ht : t ≤ 512) (N : lwN s D cA b qo q1 q2 i zs z I ad cl H locs ls f) (K : ∀ (z1 : cm_Z) (I1 : cm_I) (ad1 : Nat → Nat) (cl1 : Nat → ClassId) (H1 : Heap) (locs1 : List Loc) (ls1 : Array Slot) (f1 : Nat → Int64) (t1 : Nat), t1 ≤ t + 1 → lwN s D cA b qo q1 q2 i zs z1 I1 ad1 cl1 H1 locs1 ls1 f1 → W p l e room_1 s m #[Value.ref b] below meth c H1 locs1 (zC z1 + (1 + t1)) (zS z1 + (1 + 6 * t1)) Q (F0 m 1246 ls1 [])) : W p l e room_1 s m #[Value.ref b] below meth c H locs (zC z + (1 + t)) (zS z + (1 + 6 * t)) Q (F0 m 402 ls []) := by
  obtain ⟨hx, hb, hml, hown, hts, hX, hbl, hG, hKl, hT, hst, hL⟩ := C
  obtain ⟨j, u, S, e1, e2, T1, T2, hl⟩ := N
  obtain ⟨v, I1, z1, I2, c1, c2, j2, u2⟩ := j_about j (xs (i + 1)).toInt (xs (i + 2)).toInt
  have bd := hB z1 I2 (usW_trans u u2) j2
  have n0 := jW_N j
  refine lv_aload_n hx hb dl_402 rfl (lv_at hl 3 rfl) ?_
  refine lw_arg (j := 1) hx hb hX hbl S.2.2.1 (lv_at hl 4 rfl) (lv_at hl 0 rfl) (by omega) hL (by decide) dl_403 dl_404 dl_406 dl_407 dl_408 ?_
  refine lw_arg (j := 2) hx hb hX hbl S.2.2.1 (lv_at hl 4 rfl) (lv_at hl 0 rfl) (by omega) hL (by decide) dl_409 dl_410 dl_412 dl_413 dl_414 ?_
  rw [← e1]
  refine lw_cx (as2 := [vI (xs (i + 1)).toInt, vI (xs (i + 2)).toInt]) (rest := []) (k2 := m_Works_about) (a := 1) hx hb hml hown hts hG S c1 (by decide +kernel) (by decide) (show 1 < zN z by omega) T1 (by intro x hx; simp only [List.mem_cons, List.not_mem_nil, or_false] at hx; (rcases hx with rfl | rfl <;> exact t32i _)) (show 2 = sm_na m_Works_about by decide +kernel) (law_lk _ (List.mem_of_getElem? (i := 12) rfl)) hl.1 (by decide) dl_415 bd.1 bd.2 (show 1 + t ≤ 1000 by omega) (show 1 + 6 * t ≤ 10000 by omega) rfl rfl (fun ad1 cl1 H1 locs1 S1 hex hn _ => ?_)
  have S := S1
  refine lv_aload_n hx hb dl_418 rfl (lv_at hl 2 rfl) ?_
  refine lw_arg (j := 1) hx hb hX hbl S.2.2.1 (lv_at hl 4 rfl) (lv_at hl 0 rfl) (by omega) hL (by decide) dl_419 dl_420 dl_422 dl_423 dl_424 ?_
  refine lw_arg (j := 2) hx hb hX hbl S.2.2.1 (lv_at hl 4 rfl) (lv_at hl 0 rfl) (by omega) hL (by decide) dl_425 dl_426 dl_428 dl_429 dl_430 ?_
  rw [← e2, ← (hex 209 (show 209 < zN z by omega)).1]
  refine lw_cx (as2 := [vI (xs (i + 1)).toInt, vI (xs (i + 2)).toInt]) (rest := [.int (Int32.ofInt v)]) (k2 := m_Model_about) (a := 209) hx hb hml hown hts hG S c2 (by decide +kernel) (by decide) (show 209 < zN z1 by have := (show zN z ≤ zN z1 from hn); omega) ((hex 209 (show 209 < zN z by omega)).2.trans T2) (by intro x hx; simp only [List.mem_cons, List.not_mem_nil, or_false] at hx; (rcases hx with rfl | rfl <;> exact t32i _)) (show 2 = sm_na m_Model_about by decide +kernel) (law_lk _ (List.mem_of_getElem? (i := 13) rfl)) hl.1 (show 1 + 0 ≤ 8 by decide) dl_431 bd.1 bd.2 (show 1 + t ≤ 1000 by omega) (show 1 + 6 * t ≤ 10000 by omega) rfl rfl (fun ad2 cl2 H2 locs2 S2 hex2 hn2 _ => ?_)
  refine lv_icmp_eq (tgt := 1246) hx hb dl_434 (by decide) (fun _ => ?_) (fun q => absurd rfl q)
  have n1 : zN z ≤ zN z1 := hn
  refine K z1 I2 ad2 cl2 H2 locs2 ls f t (Nat.le_succ _) ⟨j2, usW_trans u u2, S2, ?_, ?_, ?_, ?_, hl⟩
  · rw [(hex2 1 (show 1 < zN z1 by omega)).1, (hex 1 (show 1 < zN z by omega)).1]; exact e1
  · rw [(hex2 209 (show 209 < zN z1 by omega)).1, (hex 209 (show 209 < zN z by omega)).1]; exact e2
  · exact ((hex 1 (show 1 < zN z by omega)).2).trans T1
  · exact ((hex 209 (show 209 < zN z by omega)).2).trans T2
theorem lc_7 (C : lwC l p s m meth c b L xs D cA) (hB : lwB zs) (hi : i + 7 ≤ L) (ht : t ≤ 512) (N : lwN s D cA b qo q1 q2 i zs z I ad cl H locs ls f) (K : ∀ (z1 : cm_Z) (I1 : cm_I) (ad1 : Nat → Nat) (cl1 : Nat → ClassId) (H1 : Heap) (locs1 : List Loc) (ls1 : Array Slot) (f1 : Nat → Int64) (t1 : Nat), t1 ≤ t + 1 → lwN s D cA b qo q1 q2 i zs z1 I1 ad1 cl1 H1 locs1 ls1 f1 → W p l e room_1 s m #[Value.ref b] below meth c H1 locs1 (zC z1 + (1 + t1)) (zS z1 + (1 + 6 * t1)) Q (F0 m 1246 ls1 [])) : W p l e room_1 s m #[Value.ref b] below meth c H locs (zC z + (1 + t)) (zS z + (1 + 6 * t)) Q (F0 m 439 ls []) := by
  obtain ⟨hx, hb, hml, hown, hts, hX, hbl, hG, hKl, hT, hst, hL⟩ := C
  obtain ⟨j, u, S, e1, e2, T1, T2, hl⟩ := N
  obtain ⟨v, I1, z1, I2, c1, c2, j2, u2⟩ := j_of j (xs (i + 1)).toInt (xs (i + 2)).toInt
  have bd := hB z1 I2 (usW_trans u u2) j2
  have n0 := jW_N j
  refine lv_aload_n hx hb dl_439 rfl (lv_at hl 3 rfl) ?_
  refine lw_arg (j := 1) hx hb hX hbl S.2.2.1 (lv_at hl 4 rfl) (lv_at hl 0 rfl) (by omega) hL (by decide) dl_440 dl_441 dl_443 dl_444 dl_445 ?_
  refine lw_arg (j := 2) hx hb hX hbl S.2.2.1 (lv_at hl 4 rfl) (lv_at hl 0 rfl) (by omega) hL (by decide) dl_446 dl_447 dl_449 dl_450 dl_451 ?_
  rw [← e1]
  refine lw_cx (as2 := [vI (xs (i + 1)).toInt, vI (xs (i + 2)).toInt]) (rest := []) (k2 := m_Works_of) (a := 1) hx hb hml hown hts hG S c1 (by decide +kernel) (by decide) (show 1 < zN z by omega) T1 (by intro x hx; simp only [List.mem_cons, List.not_mem_nil, or_false] at hx; (rcases hx with rfl | rfl <;> exact t32i _)) (show 2 = sm_na m_Works_of by decide +kernel) (law_lk _ (List.mem_of_getElem? (i := 14) rfl)) hl.1 (by decide) dl_452 bd.1 bd.2 (show 1 + t ≤ 1000 by omega) (show 1 + 6 * t ≤ 10000 by omega) rfl rfl (fun ad1 cl1 H1 locs1 S1 hex hn _ => ?_)
  have S := S1
  refine lv_aload_n hx hb dl_455 rfl (lv_at hl 2 rfl) ?_
  refine lw_arg (j := 1) hx hb hX hbl S.2.2.1 (lv_at hl 4 rfl) (lv_at hl 0 rfl) (by omega) hL (by decide) dl_456 dl_457 dl_459 dl_460 dl_461 ?_
  refine lw_arg (j := 2) hx hb hX hbl S.2.2.1 (lv_at hl 4 rfl) (lv_at hl 0 rfl) (by omega) hL (by decide) dl_462 dl_463 dl_465 dl_466 dl_467 ?_
  rw [← e2, ← (hex 209 (show 209 < zN z by omega)).1]
  refine lw_cx (as2 := [vI (xs (i + 1)).toInt, vI (xs (i + 2)).toInt]) (rest := [.int (Int32.ofInt v)]) (k2 := m_Model_of_) (a := 209) hx hb hml hown hts hG S c2 (by decide +kernel) (by decide) (show 209 < zN z1 by have := (show zN z ≤ zN z1 from hn); omega) ((hex 209 (show 209 < zN z by omega)).2.trans T2) (by intro x hx; simp only [List.mem_cons, List.not_mem_nil, or_false] at hx; (rcases hx with rfl | rfl <;> exact t32i _)) (show 2 = sm_na m_Model_of_ by decide +kernel) (law_lk _ (List.mem_of_getElem? (i := 15) rfl)) hl.1 (show 1 + 0 ≤ 8 by decide) dl_468 bd.1 bd.2 (show 1 + t ≤ 1000 by omega) (show 1 + 6 * t ≤ 10000 by omega) rfl rfl (fun ad2 cl2 H2 locs2 S2 hex2 hn2 _ => ?_)
  refine lv_icmp_eq (tgt := 1246) hx hb dl_471 (by decide) (fun _ => ?_) (fun q => absurd rfl q)
  have n1 : zN z ≤ zN z1 := hn
  refine K z1 I2 ad2 cl2 H2 locs2 ls f t (Nat.le_succ _) ⟨j2, usW_trans u u2, S2, ?_, ?_, ?_, ?_, hl⟩
  · rw [(hex2 1 (show 1 < zN z1 by omega)).1, (hex 1 (show 1 < zN z by omega)).1]; exact e1
  · rw [(hex2 209 (show 209 < zN z1 by omega)).1, (hex 209 (show 209 < zN z by omega)).1]; exact e2
  · exact ((hex 1 (show 1 < zN z by omega)).2).trans T1
  · exact ((hex 209 (show 209 < zN z by omega)).2).trans T2
theorem lc_8 (C : lwC l p s m meth c b L xs D cA) (hB : lwB zs) (hi : i + 7 ≤ L) (ht : t ≤ 512) (N : lwN s D cA b qo q1 q2 i zs z I ad cl H locs ls f) (K : ∀ (z1 : cm_Z) (I1 : cm_I) (ad1 : Nat → Nat) (cl1 : Nat → ClassId) (H1 : Heap) (locs1 : List Loc) (ls1 : Array Slot) (f1 : Nat → Int64) (t1 : Nat), t1 ≤ t + 1 → lwN s D cA b qo q1 q2 i zs z1 I1 ad1 cl1 H1 locs1 ls1 f1 → W p l e room_1 s m #[Value.ref b] below meth c H1 locs1 (zC z1 + (1 + t1)) (zS z1 + (1 + 6 * t1)) Q (F0 m 1246 ls1 [])) : W p l e room_1 s m #[Value.ref b] below meth c H locs (zC z + (1 + t)) (zS z + (1 + 6 * t)) Q (F0 m 476 ls []) := by
  obtain ⟨hx, hb, hml, hown, hts, hX, hbl, hG, hKl, hT, hst, hL⟩ := C
  obtain ⟨j, u, S, e1, e2, T1, T2, hl⟩ := N
  obtain ⟨v, I1, z1, I2, c1, c2, j2, u2⟩ := j_factor j (xs (i + 1)).toInt (xs (i + 2)).toInt (xs (i + 3)).toInt (xs (i + 4)).toInt
  have bd := hB z1 I2 (usW_trans u u2) j2
  have n0 := jW_N j
  refine lv_aload_n hx hb dl_476 rfl (lv_at hl 3 rfl) ?_
  refine lw_arg (j := 1) hx hb hX hbl S.2.2.1 (lv_at hl 4 rfl) (lv_at hl 0 rfl) (by omega) hL (by decide) dl_477 dl_478 dl_480 dl_481 dl_482 ?_
  refine lw_arg (j := 2) hx hb hX hbl S.2.2.1 (lv_at hl 4 rfl) (lv_at hl 0 rfl) (by omega) hL (by decide) dl_483 dl_484 dl_486 dl_487 dl_488 ?_
  refine lw_arg (j := 3) hx hb hX hbl S.2.2.1 (lv_at hl 4 rfl) (lv_at hl 0 rfl) (by omega) hL (by decide) dl_489 dl_490 dl_492 dl_493 dl_494 ?_
  refine lw_arg (j := 4) hx hb hX hbl S.2.2.1 (lv_at hl 4 rfl) (lv_at hl 0 rfl) (by omega) hL (by decide) dl_495 dl_496 dl_498 dl_499 dl_500 ?_
  rw [← e1]
  refine lw_cx (as2 := [vI (xs (i + 1)).toInt, vI (xs (i + 2)).toInt, vI (xs (i + 3)).toInt, vI (xs (i + 4)).toInt]) (rest := []) (k2 := m_Works_factor) (a := 1) hx hb hml hown hts hG S c1 (by decide +kernel) (by decide) (show 1 < zN z by omega) T1 (by intro x hx; simp only [List.mem_cons, List.not_mem_nil, or_false] at hx; (rcases hx with rfl | rfl | rfl | rfl <;> exact t32i _)) (show 4 = sm_na m_Works_factor by decide +kernel) (law_lk _ (List.mem_of_getElem? (i := 16) rfl)) hl.1 (by decide) dl_501 bd.1 bd.2 (show 1 + t ≤ 1000 by omega) (show 1 + 6 * t ≤ 10000 by omega) rfl rfl (fun ad1 cl1 H1 locs1 S1 hex hn _ => ?_)
  have S := S1
  refine lv_aload_n hx hb dl_504 rfl (lv_at hl 2 rfl) ?_
  refine lw_arg (j := 1) hx hb hX hbl S.2.2.1 (lv_at hl 4 rfl) (lv_at hl 0 rfl) (by omega) hL (by decide) dl_505 dl_506 dl_508 dl_509 dl_510 ?_
  refine lw_arg (j := 2) hx hb hX hbl S.2.2.1 (lv_at hl 4 rfl) (lv_at hl 0 rfl) (by omega) hL (by decide) dl_511 dl_512 dl_514 dl_515 dl_516 ?_
  refine lw_arg (j := 3) hx hb hX hbl S.2.2.1 (lv_at hl 4 rfl) (lv_at hl 0 rfl) (by omega) hL (by decide) dl_517 dl_518 dl_520 dl_521 dl_522 ?_
  refine lw_arg (j := 4) hx hb hX hbl S.2.2.1 (lv_at hl 4 rfl) (lv_at hl 0 rfl) (by omega) hL (by decide) dl_523 dl_524 dl_526 dl_527 dl_528 ?_
  rw [← e2, ← (hex 209 (show 209 < zN z by omega)).1]
  refine lw_cx (as2 := [vI (xs (i + 1)).toInt, vI (xs (i + 2)).toInt, vI (xs (i + 3)).toInt, vI (xs (i + 4)).toInt]) (rest := [.int (Int32.ofInt v)]) (k2 := m_Model_factor) (a := 209) hx hb hml hown hts hG S c2 (by decide +kernel) (by decide) (show 209 < zN z1 by have := (show zN z ≤ zN z1 from hn); omega) ((hex 209 (show 209 < zN z by omega)).2.trans T2) (by intro x hx; simp only [List.mem_cons, List.not_mem_nil, or_false] at hx; (rcases hx with rfl | rfl | rfl | rfl <;> exact t32i _)) (show 4 = sm_na m_Model_factor by decide +kernel) (law_lk _ (List.mem_of_getElem? (i := 17) rfl)) hl.1 (show 1 + 0 ≤ 8 by decide) dl_529 bd.1 bd.2 (show 1 + t ≤ 1000 by omega) (show 1 + 6 * t ≤ 10000 by omega) rfl rfl (fun ad2 cl2 H2 locs2 S2 hex2 hn2 _ => ?_)
  refine lv_icmp_eq (tgt := 1246) hx hb dl_532 (by decide) (fun _ => ?_) (fun q => absurd rfl q)
  have n1 : zN z ≤ zN z1 := hn
  refine K z1 I2 ad2 cl2 H2 locs2 ls f t (Nat.le_succ _) ⟨j2, usW_trans u u2, S2, ?_, ?_, ?_, ?_, hl⟩
  · rw [(hex2 1 (show 1 < zN z1 by omega)).1, (hex 1 (show 1 < zN z by omega)).1]; exact e1
  · rw [(hex2 209 (show 209 < zN z1 by omega)).1, (hex 209 (show 209 < zN z by omega)).1]; exact e2
  · exact ((hex 1 (show 1 < zN z by omega)).2).trans T1
  · exact ((hex 209 (show 209 < zN z by omega)).2).trans T2
theorem lc_10 (C : lwC l p s m meth c b L xs D cA) (hB : lwB zs) (hi : i + 7 ≤ L) (ht : t ≤ 512) (N : lwN s D cA b qo q1 q2 i zs z I ad cl H locs ls f) (K : ∀ (z1 : cm_Z) (I1 : cm_I) (ad1 : Nat → Nat) (cl1 : Nat → ClassId) (H1 : Heap) (locs1 : List Loc) (ls1 : Array Slot) (f1 : Nat → Int64) (t1 : Nat), t1 ≤ t + 1 → lwN s D cA b qo q1 q2 i zs z1 I1 ad1 cl1 H1 locs1 ls1 f1 → W p l e room_1 s m #[Value.ref b] below meth c H1 locs1 (zC z1 + (1 + t1)) (zS z1 + (1 + 6 * t1)) Q (F0 m 1246 ls1 [])) : W p l e room_1 s m #[Value.ref b] below meth c H locs (zC z + (1 + t)) (zS z + (1 + 6 * t)) Q (F0 m 617 ls []) := by
  obtain ⟨hx, hb, hml, hown, hts, hX, hbl, hG, hKl, hT, hst, hL⟩ := C
  obtain ⟨j, u, S, e1, e2, T1, T2, hl⟩ := N
  obtain ⟨v, I1, z1, I2, c1, c2, j2, u2⟩ := j_moved j (xs (i + 1)).toInt (xs (i + 2)).toInt (xs (i + 3)).toInt
  have bd := hB z1 I2 (usW_trans u u2) j2
  have n0 := jW_N j
  refine lv_aload_n hx hb dl_617 rfl (lv_at hl 3 rfl) ?_
  refine lw_arg (j := 1) hx hb hX hbl S.2.2.1 (lv_at hl 4 rfl) (lv_at hl 0 rfl) (by omega) hL (by decide) dl_618 dl_619 dl_621 dl_622 dl_623 ?_
  refine lw_arg (j := 2) hx hb hX hbl S.2.2.1 (lv_at hl 4 rfl) (lv_at hl 0 rfl) (by omega) hL (by decide) dl_624 dl_625 dl_627 dl_628 dl_629 ?_
  refine lw_arg (j := 3) hx hb hX hbl S.2.2.1 (lv_at hl 4 rfl) (lv_at hl 0 rfl) (by omega) hL (by decide) dl_630 dl_631 dl_633 dl_634 dl_635 ?_
  rw [← e1]
  refine lw_cx (as2 := [vI (xs (i + 1)).toInt, vI (xs (i + 2)).toInt, vI (xs (i + 3)).toInt]) (rest := []) (k2 := m_Works_moved) (a := 1) hx hb hml hown hts hG S c1 (by decide +kernel) (by decide) (show 1 < zN z by omega) T1 (by intro x hx; simp only [List.mem_cons, List.not_mem_nil, or_false] at hx; (rcases hx with rfl | rfl | rfl <;> exact t32i _)) (show 3 = sm_na m_Works_moved by decide +kernel) (law_lk _ (List.mem_of_getElem? (i := 18) rfl)) hl.1 (by decide) dl_636 bd.1 bd.2 (show 1 + t ≤ 1000 by omega) (show 1 + 6 * t ≤ 10000 by omega) rfl rfl (fun ad1 cl1 H1 locs1 S1 hex hn _ => ?_)
  have S := S1
  refine lv_aload_n hx hb dl_639 rfl (lv_at hl 2 rfl) ?_
  refine lw_arg (j := 1) hx hb hX hbl S.2.2.1 (lv_at hl 4 rfl) (lv_at hl 0 rfl) (by omega) hL (by decide) dl_640 dl_641 dl_643 dl_644 dl_645 ?_
  refine lw_arg (j := 2) hx hb hX hbl S.2.2.1 (lv_at hl 4 rfl) (lv_at hl 0 rfl) (by omega) hL (by decide) dl_646 dl_647 dl_649 dl_650 dl_651 ?_
  refine lw_arg (j := 3) hx hb hX hbl S.2.2.1 (lv_at hl 4 rfl) (lv_at hl 0 rfl) (by omega) hL (by decide) dl_652 dl_653 dl_655 dl_656 dl_657 ?_
  rw [← e2, ← (hex 209 (show 209 < zN z by omega)).1]
  refine lw_cx (as2 := [vI (xs (i + 1)).toInt, vI (xs (i + 2)).toInt, vI (xs (i + 3)).toInt]) (rest := [.int (Int32.ofInt v)]) (k2 := m_Model_moved) (a := 209) hx hb hml hown hts hG S c2 (by decide +kernel) (by decide) (show 209 < zN z1 by have := (show zN z ≤ zN z1 from hn); omega) ((hex 209 (show 209 < zN z by omega)).2.trans T2) (by intro x hx; simp only [List.mem_cons, List.not_mem_nil, or_false] at hx; (rcases hx with rfl | rfl | rfl <;> exact t32i _)) (show 3 = sm_na m_Model_moved by decide +kernel) (law_lk _ (List.mem_of_getElem? (i := 19) rfl)) hl.1 (show 1 + 0 ≤ 8 by decide) dl_658 bd.1 bd.2 (show 1 + t ≤ 1000 by omega) (show 1 + 6 * t ≤ 10000 by omega) rfl rfl (fun ad2 cl2 H2 locs2 S2 hex2 hn2 _ => ?_)
  refine lv_icmp_eq (tgt := 1246) hx hb dl_661 (by decide) (fun _ => ?_) (fun q => absurd rfl q)
  have n1 : zN z ≤ zN z1 := hn
  refine K z1 I2 ad2 cl2 H2 locs2 ls f t (Nat.le_succ _) ⟨j2, usW_trans u u2, S2, ?_, ?_, ?_, ?_, hl⟩
  · rw [(hex2 1 (show 1 < zN z1 by omega)).1, (hex 1 (show 1 < zN z by omega)).1]; exact e1
  · rw [(hex2 209 (show 209 < zN z1 by omega)).1, (hex 209 (show 209 < zN z by omega)).1]; exact e2
  · exact ((hex 1 (show 1 < zN z by omega)).2).trans T1
  · exact ((hex 209 (show 209 < zN z by omega)).2).trans T2
theorem lc_11 (C : lwC l p s m meth c b L xs D cA) (hB : lwB zs) (hi : i + 7 ≤ L) (ht : t ≤ 512) (N : lwN s D cA b qo q1 q2 i zs z I ad cl H locs ls f) (K : ∀ (z1 : cm_Z) (I1 : cm_I) (ad1 : Nat → Nat) (cl1 : Nat → ClassId) (H1 : Heap) (locs1 : List Loc) (ls1 : Array Slot) (f1 : Nat → Int64) (t1 : Nat), t1 ≤ t + 1 → lwN s D cA b qo q1 q2 i zs z1 I1 ad1 cl1 H1 locs1 ls1 f1 → W p l e room_1 s m #[Value.ref b] below meth c H1 locs1 (zC z1 + (1 + t1)) (zS z1 + (1 + 6 * t1)) Q (F0 m 1246 ls1 [])) : W p l e room_1 s m #[Value.ref b] below meth c H locs (zC z + (1 + t)) (zS z + (1 + 6 * t)) Q (F0 m 666 ls []) := by
  obtain ⟨hx, hb, hml, hown, hts, hX, hbl, hG, hKl, hT, hst, hL⟩ := C
  obtain ⟨j, u, S, e1, e2, T1, T2, hl⟩ := N
  obtain ⟨v, I1, z1, I2, c1, c2, j2, u2⟩ := j_average j (xs (i + 1)).toInt (xs (i + 2)).toInt
  have bd := hB z1 I2 (usW_trans u u2) j2
  have n0 := jW_N j
  refine lv_aload_n hx hb dl_666 rfl (lv_at hl 3 rfl) ?_
  refine lw_arg (j := 1) hx hb hX hbl S.2.2.1 (lv_at hl 4 rfl) (lv_at hl 0 rfl) (by omega) hL (by decide) dl_667 dl_668 dl_670 dl_671 dl_672 ?_
  refine lw_arg (j := 2) hx hb hX hbl S.2.2.1 (lv_at hl 4 rfl) (lv_at hl 0 rfl) (by omega) hL (by decide) dl_673 dl_674 dl_676 dl_677 dl_678 ?_
  rw [← e1]
  refine lw_cx (as2 := [vI (xs (i + 1)).toInt, vI (xs (i + 2)).toInt]) (rest := []) (k2 := m_Works_average) (a := 1) hx hb hml hown hts hG S c1 (by decide +kernel) (by decide) (show 1 < zN z by omega) T1 (by intro x hx; simp only [List.mem_cons, List.not_mem_nil, or_false] at hx; (rcases hx with rfl | rfl <;> exact t32i _)) (show 2 = sm_na m_Works_average by decide +kernel) (law_lk _ (List.mem_of_getElem? (i := 20) rfl)) hl.1 (by decide) dl_679 bd.1 bd.2 (show 1 + t ≤ 1000 by omega) (show 1 + 6 * t ≤ 10000 by omega) rfl rfl (fun ad1 cl1 H1 locs1 S1 hex hn _ => ?_)
  have S := S1
  refine lv_aload_n hx hb dl_682 rfl (lv_at hl 2 rfl) ?_
  refine lw_arg (j := 1) hx hb hX hbl S.2.2.1 (lv_at hl 4 rfl) (lv_at hl 0 rfl) (by omega) hL (by decide) dl_683 dl_684 dl_686 dl_687 dl_688 ?_
  refine lw_arg (j := 2) hx hb hX hbl S.2.2.1 (lv_at hl 4 rfl) (lv_at hl 0 rfl) (by omega) hL (by decide) dl_689 dl_690 dl_692 dl_693 dl_694 ?_
  rw [← e2, ← (hex 209 (show 209 < zN z by omega)).1]
  refine lw_cx (as2 := [vI (xs (i + 1)).toInt, vI (xs (i + 2)).toInt]) (rest := [.int (Int32.ofInt v)]) (k2 := m_Model_average) (a := 209) hx hb hml hown hts hG S c2 (by decide +kernel) (by decide) (show 209 < zN z1 by have := (show zN z ≤ zN z1 from hn); omega) ((hex 209 (show 209 < zN z by omega)).2.trans T2) (by intro x hx; simp only [List.mem_cons, List.not_mem_nil, or_false] at hx; (rcases hx with rfl | rfl <;> exact t32i _)) (show 2 = sm_na m_Model_average by decide +kernel) (law_lk _ (List.mem_of_getElem? (i := 21) rfl)) hl.1 (show 1 + 0 ≤ 8 by decide) dl_695 bd.1 bd.2 (show 1 + t ≤ 1000 by omega) (show 1 + 6 * t ≤ 10000 by omega) rfl rfl (fun ad2 cl2 H2 locs2 S2 hex2 hn2 _ => ?_)
  refine lv_icmp_eq (tgt := 1246) hx hb dl_698 (by decide) (fun _ => ?_) (fun q => absurd rfl q)
  have n1 : zN z ≤ zN z1 := hn
  refine K z1 I2 ad2 cl2 H2 locs2 ls f t (Nat.le_succ _) ⟨j2, usW_trans u u2, S2, ?_, ?_, ?_, ?_, hl⟩
  · rw [(hex2 1 (show 1 < zN z1 by omega)).1, (hex 1 (show 1 < zN z by omega)).1]; exact e1
  · rw [(hex2 209 (show 209 < zN z1 by omega)).1, (hex 209 (show 209 < zN z by omega)).1]; exact e2
  · exact ((hex 1 (show 1 < zN z by omega)).2).trans T1
  · exact ((hex 209 (show 209 < zN z by omega)).2).trans T2
theorem lc_12 (C : lwC l p s m meth c b L xs D cA) (hB : lwB zs) (hi : i + 7 ≤ L) (ht : t ≤ 512) (N : lwN s D cA b qo q1 q2 i zs z I ad cl H locs ls f) (K : ∀ (z1 : cm_Z) (I1 : cm_I) (ad1 : Nat → Nat) (cl1 : Nat → ClassId) (H1 : Heap) (locs1 : List Loc) (ls1 : Array Slot) (f1 : Nat → Int64) (t1 : Nat), t1 ≤ t + 1 → lwN s D cA b qo q1 q2 i zs z1 I1 ad1 cl1 H1 locs1 ls1 f1 → W p l e room_1 s m #[Value.ref b] below meth c H1 locs1 (zC z1 + (1 + t1)) (zS z1 + (1 + 6 * t1)) Q (F0 m 1246 ls1 [])) : W p l e room_1 s m #[Value.ref b] below meth c H locs (zC z + (1 + t)) (zS z + (1 + 6 * t)) Q (F0 m 703 ls []) := by
  obtain ⟨hx, hb, hml, hown, hts, hX, hbl, hG, hKl, hT, hst, hL⟩ := C
  obtain ⟨j, u, S, e1, e2, T1, T2, hl⟩ := N
  obtain ⟨v, I1, z1, I2, c1, c2, j2, u2⟩ := j_plus j (xs (i + 1)).toInt (xs (i + 2)).toInt (xs (i + 3)).toInt (xs (i + 4)).toInt
  have bd := hB z1 I2 (usW_trans u u2) j2
  have n0 := jW_N j
  refine lv_aload_n hx hb dl_703 rfl (lv_at hl 3 rfl) ?_
  refine lw_arg (j := 1) hx hb hX hbl S.2.2.1 (lv_at hl 4 rfl) (lv_at hl 0 rfl) (by omega) hL (by decide) dl_704 dl_705 dl_707 dl_708 dl_709 ?_
  refine lw_arg (j := 2) hx hb hX hbl S.2.2.1 (lv_at hl 4 rfl) (lv_at hl 0 rfl) (by omega) hL (by decide) dl_710 dl_711 dl_713 dl_714 dl_715 ?_
  refine lw_arg (j := 3) hx hb hX hbl S.2.2.1 (lv_at hl 4 rfl) (lv_at hl 0 rfl) (by omega) hL (by decide) dl_716 dl_717 dl_719 dl_720 dl_721 ?_
  refine lw_arg (j := 4) hx hb hX hbl S.2.2.1 (lv_at hl 4 rfl) (lv_at hl 0 rfl) (by omega) hL (by decide) dl_722 dl_723 dl_725 dl_726 dl_727 ?_
  rw [← e1]
  refine lw_cx (as2 := [vI (xs (i + 1)).toInt, vI (xs (i + 2)).toInt, vI (xs (i + 3)).toInt, vI (xs (i + 4)).toInt]) (rest := []) (k2 := m_Works_plus) (a := 1) hx hb hml hown hts hG S c1 (by decide +kernel) (by decide) (show 1 < zN z by omega) T1 (by intro x hx; simp only [List.mem_cons, List.not_mem_nil, or_false] at hx; (rcases hx with rfl | rfl | rfl | rfl <;> exact t32i _)) (show 4 = sm_na m_Works_plus by decide +kernel) (law_lk _ (List.mem_of_getElem? (i := 22) rfl)) hl.1 (by decide) dl_728 bd.1 bd.2 (show 1 + t ≤ 1000 by omega) (show 1 + 6 * t ≤ 10000 by omega) rfl rfl (fun ad1 cl1 H1 locs1 S1 hex hn _ => ?_)
  have S := S1
  refine lv_aload_n hx hb dl_731 rfl (lv_at hl 2 rfl) ?_
  refine lw_arg (j := 1) hx hb hX hbl S.2.2.1 (lv_at hl 4 rfl) (lv_at hl 0 rfl) (by omega) hL (by decide) dl_732 dl_733 dl_735 dl_736 dl_737 ?_
  refine lw_arg (j := 2) hx hb hX hbl S.2.2.1 (lv_at hl 4 rfl) (lv_at hl 0 rfl) (by omega) hL (by decide) dl_738 dl_739 dl_741 dl_742 dl_743 ?_
  refine lw_arg (j := 3) hx hb hX hbl S.2.2.1 (lv_at hl 4 rfl) (lv_at hl 0 rfl) (by omega) hL (by decide) dl_744 dl_745 dl_747 dl_748 dl_749 ?_
  refine lw_arg (j := 4) hx hb hX hbl S.2.2.1 (lv_at hl 4 rfl) (lv_at hl 0 rfl) (by omega) hL (by decide) dl_750 dl_751 dl_753 dl_754 dl_755 ?_
  rw [← e2, ← (hex 209 (show 209 < zN z by omega)).1]
  refine lw_cx (as2 := [vI (xs (i + 1)).toInt, vI (xs (i + 2)).toInt, vI (xs (i + 3)).toInt, vI (xs (i + 4)).toInt]) (rest := [.int (Int32.ofInt v)]) (k2 := m_Model_plus) (a := 209) hx hb hml hown hts hG S c2 (by decide +kernel) (by decide) (show 209 < zN z1 by have := (show zN z ≤ zN z1 from hn); omega) ((hex 209 (show 209 < zN z by omega)).2.trans T2) (by intro x hx; simp only [List.mem_cons, List.not_mem_nil, or_false] at hx; (rcases hx with rfl | rfl | rfl | rfl <;> exact t32i _)) (show 4 = sm_na m_Model_plus by decide +kernel) (law_lk _ (List.mem_of_getElem? (i := 23) rfl)) hl.1 (show 1 + 0 ≤ 8 by decide) dl_756 bd.1 bd.2 (show 1 + t ≤ 1000 by omega) (show 1 + 6 * t ≤ 10000 by omega) rfl rfl (fun ad2 cl2 H2 locs2 S2 hex2 hn2 _ => ?_)
  refine lv_icmp_eq (tgt := 1246) hx hb dl_759 (by decide) (fun _ => ?_) (fun q => absurd rfl q)
  have n1 : zN z ≤ zN z1 := hn
  refine K z1 I2 ad2 cl2 H2 locs2 ls f t (Nat.le_succ _) ⟨j2, usW_trans u u2, S2, ?_, ?_, ?_, ?_, hl⟩
  · rw [(hex2 1 (show 1 < zN z1 by omega)).1, (hex 1 (show 1 < zN z by omega)).1]; exact e1
  · rw [(hex2 209 (show 209 < zN z1 by omega)).1, (hex 209 (show 209 < zN z by omega)).1]; exact e2
  · exact ((hex 1 (show 1 < zN z by omega)).2).trans T1
  · exact ((hex 209 (show 209 < zN z by omega)).2).trans T2
theorem lc_13 (C : lwC l p s m meth c b L xs D cA) (hB : lwB zs) (hi : i + 7 ≤ L) (ht : t ≤ 512) (N : lwN s D cA b qo q1 q2 i zs z I ad cl H locs ls f) (K : ∀ (z1 : cm_Z) (I1 : cm_I) (ad1 : Nat → Nat) (cl1 : Nat → ClassId) (H1 : Heap) (locs1 : List Loc) (ls1 : Array Slot) (f1 : Nat → Int64) (t1 : Nat), t1 ≤ t + 1 → lwN s D cA b qo q1 q2 i zs z1 I1 ad1 cl1 H1 locs1 ls1 f1 → W p l e room_1 s m #[Value.ref b] below meth c H1 locs1 (zC z1 + (1 + t1)) (zS z1 + (1 + 6 * t1)) Q (F0 m 1246 ls1 [])) : W p l e room_1 s m #[Value.ref b] below meth c H locs (zC z + (1 + t)) (zS z + (1 + 6 * t)) Q (F0 m 764 ls []) := by
  obtain ⟨hx, hb, hml, hown, hts, hX, hbl, hG, hKl, hT, hst, hL⟩ := C
  obtain ⟨j, u, S, e1, e2, T1, T2, hl⟩ := N
  obtain ⟨v, I1, z1, I2, c1, c2, j2, u2⟩ := j_product j (xs (i + 1)).toInt (xs (i + 2)).toInt (xs (i + 3)).toInt
  have bd := hB z1 I2 (usW_trans u u2) j2
  have n0 := jW_N j
  refine lv_aload_n hx hb dl_764 rfl (lv_at hl 3 rfl) ?_
  refine lw_arg (j := 1) hx hb hX hbl S.2.2.1 (lv_at hl 4 rfl) (lv_at hl 0 rfl) (by omega) hL (by decide) dl_765 dl_766 dl_768 dl_769 dl_770 ?_
  refine lw_arg (j := 2) hx hb hX hbl S.2.2.1 (lv_at hl 4 rfl) (lv_at hl 0 rfl) (by omega) hL (by decide) dl_771 dl_772 dl_774 dl_775 dl_776 ?_
  refine lw_arg (j := 3) hx hb hX hbl S.2.2.1 (lv_at hl 4 rfl) (lv_at hl 0 rfl) (by omega) hL (by decide) dl_777 dl_778 dl_780 dl_781 dl_782 ?_
  rw [← e1]
  refine lw_cx (as2 := [vI (xs (i + 1)).toInt, vI (xs (i + 2)).toInt, vI (xs (i + 3)).toInt]) (rest := []) (k2 := m_Works_product) (a := 1) hx hb hml hown hts hG S c1 (by decide +kernel) (by decide) (show 1 < zN z by omega) T1 (by intro x hx; simp only [List.mem_cons, List.not_mem_nil, or_false] at hx; (rcases hx with rfl | rfl | rfl <;> exact t32i _)) (show 3 = sm_na m_Works_product by decide +kernel) (law_lk _ (List.mem_of_getElem? (i := 24) rfl)) hl.1 (by decide) dl_783 bd.1 bd.2 (show 1 + t ≤ 1000 by omega) (show 1 + 6 * t ≤ 10000 by omega) rfl rfl (fun ad1 cl1 H1 locs1 S1 hex hn _ => ?_)
  have S := S1
  refine lv_aload_n hx hb dl_786 rfl (lv_at hl 2 rfl) ?_
  refine lw_arg (j := 1) hx hb hX hbl S.2.2.1 (lv_at hl 4 rfl) (lv_at hl 0 rfl) (by omega) hL (by decide) dl_787 dl_788 dl_790 dl_791 dl_792 ?_
  refine lw_arg (j := 2) hx hb hX hbl S.2.2.1 (lv_at hl 4 rfl) (lv_at hl 0 rfl) (by omega) hL (by decide) dl_793 dl_794 dl_796 dl_797 dl_798 ?_
  refine lw_arg (j := 3) hx hb hX hbl S.2.2.1 (lv_at hl 4 rfl) (lv_at hl 0 rfl) (by omega) hL (by decide) dl_799 dl_800 dl_802 dl_803 dl_804 ?_
  rw [← e2, ← (hex 209 (show 209 < zN z by omega)).1]
  refine lw_cx (as2 := [vI (xs (i + 1)).toInt, vI (xs (i + 2)).toInt, vI (xs (i + 3)).toInt]) (rest := [.int (Int32.ofInt v)]) (k2 := m_Model_product_) (a := 209) hx hb hml hown hts hG S c2 (by decide +kernel) (by decide) (show 209 < zN z1 by have := (show zN z ≤ zN z1 from hn); omega) ((hex 209 (show 209 < zN z by omega)).2.trans T2) (by intro x hx; simp only [List.mem_cons, List.not_mem_nil, or_false] at hx; (rcases hx with rfl | rfl | rfl <;> exact t32i _)) (show 3 = sm_na m_Model_product_ by decide +kernel) (law_lk _ (List.mem_of_getElem? (i := 25) rfl)) hl.1 (show 1 + 0 ≤ 8 by decide) dl_805 bd.1 bd.2 (show 1 + t ≤ 1000 by omega) (show 1 + 6 * t ≤ 10000 by omega) rfl rfl (fun ad2 cl2 H2 locs2 S2 hex2 hn2 _ => ?_)
  refine lv_icmp_eq (tgt := 1246) hx hb dl_808 (by decide) (fun _ => ?_) (fun q => absurd rfl q)
  have n1 : zN z ≤ zN z1 := hn
  refine K z1 I2 ad2 cl2 H2 locs2 ls f t (Nat.le_succ _) ⟨j2, usW_trans u u2, S2, ?_, ?_, ?_, ?_, hl⟩
  · rw [(hex2 1 (show 1 < zN z1 by omega)).1, (hex 1 (show 1 < zN z by omega)).1]; exact e1
  · rw [(hex2 209 (show 209 < zN z1 by omega)).1, (hex 209 (show 209 < zN z by omega)).1]; exact e2
  · exact ((hex 1 (show 1 < zN z by omega)).2).trans T1
  · exact ((hex 209 (show 209 < zN z by omega)).2).trans T2
theorem lc_14 (C : lwC l p s m meth c b L xs D cA) (hB : lwB zs) (hi : i + 7 ≤ L) (ht : t ≤ 512) (N : lwN s D cA b qo q1 q2 i zs z I ad cl H locs ls f) (K : ∀ (z1 : cm_Z) (I1 : cm_I) (ad1 : Nat → Nat) (cl1 : Nat → ClassId) (H1 : Heap) (locs1 : List Loc) (ls1 : Array Slot) (f1 : Nat → Int64) (t1 : Nat), t1 ≤ t + 1 → lwN s D cA b qo q1 q2 i zs z1 I1 ad1 cl1 H1 locs1 ls1 f1 → W p l e room_1 s m #[Value.ref b] below meth c H1 locs1 (zC z1 + (1 + t1)) (zS z1 + (1 + 6 * t1)) Q (F0 m 1246 ls1 [])) : W p l e room_1 s m #[Value.ref b] below meth c H locs (zC z + (1 + t)) (zS z + (1 + 6 * t)) Q (F0 m 813 ls []) := by
  obtain ⟨hx, hb, hml, hown, hts, hX, hbl, hG, hKl, hT, hst, hL⟩ := C
  obtain ⟨j, u, S, e1, e2, T1, T2, hl⟩ := N
  obtain ⟨v, I1, z1, I2, c1, c2, j2, u2⟩ := j_series j (xs (i + 1)).toInt
  have bd := hB z1 I2 (usW_trans u u2) j2
  have n0 := jW_N j
  refine lv_aload_n hx hb dl_813 rfl (lv_at hl 3 rfl) ?_
  refine lw_arg (j := 1) hx hb hX hbl S.2.2.1 (lv_at hl 4 rfl) (lv_at hl 0 rfl) (by omega) hL (by decide) dl_814 dl_815 dl_817 dl_818 dl_819 ?_
  rw [← e1]
  refine lw_cx (as2 := [vI (xs (i + 1)).toInt]) (rest := []) (k2 := m_Works_series) (a := 1) hx hb hml hown hts hG S c1 (by decide +kernel) (by decide) (show 1 < zN z by omega) T1 (by intro x hx; simp only [List.mem_cons, List.not_mem_nil, or_false] at hx; (rcases hx with rfl <;> exact t32i _)) (show 1 = sm_na m_Works_series by decide +kernel) (law_lk _ (List.mem_of_getElem? (i := 26) rfl)) hl.1 (by decide) dl_820 bd.1 bd.2 (show 1 + t ≤ 1000 by omega) (show 1 + 6 * t ≤ 10000 by omega) rfl rfl (fun ad1 cl1 H1 locs1 S1 hex hn _ => ?_)
  have S := S1
  refine lv_aload_n hx hb dl_823 rfl (lv_at hl 2 rfl) ?_
  refine lw_arg (j := 1) hx hb hX hbl S.2.2.1 (lv_at hl 4 rfl) (lv_at hl 0 rfl) (by omega) hL (by decide) dl_824 dl_825 dl_827 dl_828 dl_829 ?_
  rw [← e2, ← (hex 209 (show 209 < zN z by omega)).1]
  refine lw_cx (as2 := [vI (xs (i + 1)).toInt]) (rest := [.int (Int32.ofInt v)]) (k2 := m_Model_series) (a := 209) hx hb hml hown hts hG S c2 (by decide +kernel) (by decide) (show 209 < zN z1 by have := (show zN z ≤ zN z1 from hn); omega) ((hex 209 (show 209 < zN z by omega)).2.trans T2) (by intro x hx; simp only [List.mem_cons, List.not_mem_nil, or_false] at hx; (rcases hx with rfl <;> exact t32i _)) (show 1 = sm_na m_Model_series by decide +kernel) (law_lk _ (List.mem_of_getElem? (i := 27) rfl)) hl.1 (show 1 + 0 ≤ 8 by decide) dl_830 bd.1 bd.2 (show 1 + t ≤ 1000 by omega) (show 1 + 6 * t ≤ 10000 by omega) rfl rfl (fun ad2 cl2 H2 locs2 S2 hex2 hn2 _ => ?_)
  refine lv_icmp_eq (tgt := 1246) hx hb dl_833 (by decide) (fun _ => ?_) (fun q => absurd rfl q)
  have n1 : zN z ≤ zN z1 := hn
  refine K z1 I2 ad2 cl2 H2 locs2 ls f t (Nat.le_succ _) ⟨j2, usW_trans u u2, S2, ?_, ?_, ?_, ?_, hl⟩
  · rw [(hex2 1 (show 1 < zN z1 by omega)).1, (hex 1 (show 1 < zN z by omega)).1]; exact e1
  · rw [(hex2 209 (show 209 < zN z1 by omega)).1, (hex 209 (show 209 < zN z by omega)).1]; exact e2
  · exact ((hex 1 (show 1 < zN z by omega)).2).trans T1
  · exact ((hex 209 (show 209 < zN z by omega)).2).trans T2
theorem lc_15 (C : lwC l p s m meth c b L xs D cA) (hB : lwB zs) (hi : i + 7 ≤ L) (ht : t ≤ 512) (N : lwN s D cA b qo q1 q2 i zs z I ad cl H locs ls f) (K : ∀ (z1 : cm_Z) (I1 : cm_I) (ad1 : Nat → Nat) (cl1 : Nat → ClassId) (H1 : Heap) (locs1 : List Loc) (ls1 : Array Slot) (f1 : Nat → Int64) (t1 : Nat), t1 ≤ t + 1 → lwN s D cA b qo q1 q2 i zs z1 I1 ad1 cl1 H1 locs1 ls1 f1 → W p l e room_1 s m #[Value.ref b] below meth c H1 locs1 (zC z1 + (1 + t1)) (zS z1 + (1 + 6 * t1)) Q (F0 m 1246 ls1 [])) : W p l e room_1 s m #[Value.ref b] below meth c H locs (zC z + (1 + t)) (zS z + (1 + 6 * t)) Q (F0 m 838 ls []) := by
  obtain ⟨hx, hb, hml, hown, hts, hX, hbl, hG, hKl, hT, hst, hL⟩ := C
  obtain ⟨j, u, S, e1, e2, T1, T2, hl⟩ := N
  obtain ⟨v, I1, z1, I2, c1, c2, j2, u2⟩ := j_base j (xs (i + 1)).toInt (xs (i + 2)).toInt (xs (i + 3)).toInt
  have bd := hB z1 I2 (usW_trans u u2) j2
  have n0 := jW_N j
  refine lv_aload_n hx hb dl_838 rfl (lv_at hl 3 rfl) ?_
  refine lw_arg (j := 1) hx hb hX hbl S.2.2.1 (lv_at hl 4 rfl) (lv_at hl 0 rfl) (by omega) hL (by decide) dl_839 dl_840 dl_842 dl_843 dl_844 ?_
  refine lw_arg (j := 2) hx hb hX hbl S.2.2.1 (lv_at hl 4 rfl) (lv_at hl 0 rfl) (by omega) hL (by decide) dl_845 dl_846 dl_848 dl_849 dl_850 ?_
  refine lw_arg (j := 3) hx hb hX hbl S.2.2.1 (lv_at hl 4 rfl) (lv_at hl 0 rfl) (by omega) hL (by decide) dl_851 dl_852 dl_854 dl_855 dl_856 ?_
  rw [← e1]
  refine lw_cx (as2 := [vI (xs (i + 1)).toInt, vI (xs (i + 2)).toInt, vI (xs (i + 3)).toInt]) (rest := []) (k2 := m_Works_base) (a := 1) hx hb hml hown hts hG S c1 (by decide +kernel) (by decide) (show 1 < zN z by omega) T1 (by intro x hx; simp only [List.mem_cons, List.not_mem_nil, or_false] at hx; (rcases hx with rfl | rfl | rfl <;> exact t32i _)) (show 3 = sm_na m_Works_base by decide +kernel) (law_lk _ (List.mem_of_getElem? (i := 28) rfl)) hl.1 (by decide) dl_857 bd.1 bd.2 (show 1 + t ≤ 1000 by omega) (show 1 + 6 * t ≤ 10000 by omega) rfl rfl (fun ad1 cl1 H1 locs1 S1 hex hn _ => ?_)
  have S := S1
  refine lv_aload_n hx hb dl_860 rfl (lv_at hl 2 rfl) ?_
  refine lw_arg (j := 1) hx hb hX hbl S.2.2.1 (lv_at hl 4 rfl) (lv_at hl 0 rfl) (by omega) hL (by decide) dl_861 dl_862 dl_864 dl_865 dl_866 ?_
  refine lw_arg (j := 2) hx hb hX hbl S.2.2.1 (lv_at hl 4 rfl) (lv_at hl 0 rfl) (by omega) hL (by decide) dl_867 dl_868 dl_870 dl_871 dl_872 ?_
  refine lw_arg (j := 3) hx hb hX hbl S.2.2.1 (lv_at hl 4 rfl) (lv_at hl 0 rfl) (by omega) hL (by decide) dl_873 dl_874 dl_876 dl_877 dl_878 ?_
  rw [← e2, ← (hex 209 (show 209 < zN z by omega)).1]
  refine lw_cx (as2 := [vI (xs (i + 1)).toInt, vI (xs (i + 2)).toInt, vI (xs (i + 3)).toInt]) (rest := [.int (Int32.ofInt v)]) (k2 := m_Model_base) (a := 209) hx hb hml hown hts hG S c2 (by decide +kernel) (by decide) (show 209 < zN z1 by have := (show zN z ≤ zN z1 from hn); omega) ((hex 209 (show 209 < zN z by omega)).2.trans T2) (by intro x hx; simp only [List.mem_cons, List.not_mem_nil, or_false] at hx; (rcases hx with rfl | rfl | rfl <;> exact t32i _)) (show 3 = sm_na m_Model_base by decide +kernel) (law_lk _ (List.mem_of_getElem? (i := 29) rfl)) hl.1 (show 1 + 0 ≤ 8 by decide) dl_879 bd.1 bd.2 (show 1 + t ≤ 1000 by omega) (show 1 + 6 * t ≤ 10000 by omega) rfl rfl (fun ad2 cl2 H2 locs2 S2 hex2 hn2 _ => ?_)
  refine lv_icmp_eq (tgt := 1246) hx hb dl_882 (by decide) (fun _ => ?_) (fun q => absurd rfl q)
  have n1 : zN z ≤ zN z1 := hn
  refine K z1 I2 ad2 cl2 H2 locs2 ls f t (Nat.le_succ _) ⟨j2, usW_trans u u2, S2, ?_, ?_, ?_, ?_, hl⟩
  · rw [(hex2 1 (show 1 < zN z1 by omega)).1, (hex 1 (show 1 < zN z by omega)).1]; exact e1
  · rw [(hex2 209 (show 209 < zN z1 by omega)).1, (hex 209 (show 209 < zN z by omega)).1]; exact e2
  · exact ((hex 1 (show 1 < zN z by omega)).2).trans T1
  · exact ((hex 209 (show 209 < zN z by omega)).2).trans T2
theorem lc_16 (C : lwC l p s m meth c b L xs D cA) (hB : lwB zs) (hi : i + 7 ≤ L) (ht : t ≤ 512) (N : lwN s D cA b qo q1 q2 i zs z I ad cl H locs ls f) (K : ∀ (z1 : cm_Z) (I1 : cm_I) (ad1 : Nat → Nat) (cl1 : Nat → ClassId) (H1 : Heap) (locs1 : List Loc) (ls1 : Array Slot) (f1 : Nat → Int64) (t1 : Nat), t1 ≤ t + 1 → lwN s D cA b qo q1 q2 i zs z1 I1 ad1 cl1 H1 locs1 ls1 f1 → W p l e room_1 s m #[Value.ref b] below meth c H1 locs1 (zC z1 + (1 + t1)) (zS z1 + (1 + 6 * t1)) Q (F0 m 1246 ls1 [])) : W p l e room_1 s m #[Value.ref b] below meth c H locs (zC z + (1 + t)) (zS z + (1 + 6 * t)) Q (F0 m 887 ls []) := by
  obtain ⟨hx, hb, hml, hown, hts, hX, hbl, hG, hKl, hT, hst, hL⟩ := C
  obtain ⟨j, u, S, e1, e2, T1, T2, hl⟩ := N
  obtain ⟨v, I1, z1, I2, c1, c2, j2, u2⟩ := j_isSystem j (xs (i + 1)).toInt (xs (i + 2)).toInt (xs (i + 3)).toInt
  have bd := hB z1 I2 (usW_trans u u2) j2
  have n0 := jW_N j
  refine lv_aload_n hx hb dl_887 rfl (lv_at hl 3 rfl) ?_
  refine lw_arg (j := 1) hx hb hX hbl S.2.2.1 (lv_at hl 4 rfl) (lv_at hl 0 rfl) (by omega) hL (by decide) dl_888 dl_889 dl_891 dl_892 dl_893 ?_
  refine lw_arg (j := 2) hx hb hX hbl S.2.2.1 (lv_at hl 4 rfl) (lv_at hl 0 rfl) (by omega) hL (by decide) dl_894 dl_895 dl_897 dl_898 dl_899 ?_
  refine lw_arg (j := 3) hx hb hX hbl S.2.2.1 (lv_at hl 4 rfl) (lv_at hl 0 rfl) (by omega) hL (by decide) dl_900 dl_901 dl_903 dl_904 dl_905 ?_
  rw [← e1]
  refine lw_cx (as2 := [vI (xs (i + 1)).toInt, vI (xs (i + 2)).toInt, vI (xs (i + 3)).toInt]) (rest := []) (k2 := m_Works_isSystem) (a := 1) hx hb hml hown hts hG S c1 (by decide +kernel) (by decide) (show 1 < zN z by omega) T1 (by intro x hx; simp only [List.mem_cons, List.not_mem_nil, or_false] at hx; (rcases hx with rfl | rfl | rfl <;> exact t32i _)) (show 3 = sm_na m_Works_isSystem by decide +kernel) (law_lk _ (List.mem_of_getElem? (i := 30) rfl)) hl.1 (by decide) dl_906 bd.1 bd.2 (show 1 + t ≤ 1000 by omega) (show 1 + 6 * t ≤ 10000 by omega) rfl rfl (fun ad1 cl1 H1 locs1 S1 hex hn _ => ?_)
  have S := S1
  refine lv_aload_n hx hb dl_909 rfl (lv_at hl 2 rfl) ?_
  refine lw_arg (j := 1) hx hb hX hbl S.2.2.1 (lv_at hl 4 rfl) (lv_at hl 0 rfl) (by omega) hL (by decide) dl_910 dl_911 dl_913 dl_914 dl_915 ?_
  refine lw_arg (j := 2) hx hb hX hbl S.2.2.1 (lv_at hl 4 rfl) (lv_at hl 0 rfl) (by omega) hL (by decide) dl_916 dl_917 dl_919 dl_920 dl_921 ?_
  refine lw_arg (j := 3) hx hb hX hbl S.2.2.1 (lv_at hl 4 rfl) (lv_at hl 0 rfl) (by omega) hL (by decide) dl_922 dl_923 dl_925 dl_926 dl_927 ?_
  rw [← e2, ← (hex 209 (show 209 < zN z by omega)).1]
  refine lw_cx (as2 := [vI (xs (i + 1)).toInt, vI (xs (i + 2)).toInt, vI (xs (i + 3)).toInt]) (rest := [.int (Int32.ofInt v)]) (k2 := m_Model_isSystem) (a := 209) hx hb hml hown hts hG S c2 (by decide +kernel) (by decide) (show 209 < zN z1 by have := (show zN z ≤ zN z1 from hn); omega) ((hex 209 (show 209 < zN z by omega)).2.trans T2) (by intro x hx; simp only [List.mem_cons, List.not_mem_nil, or_false] at hx; (rcases hx with rfl | rfl | rfl <;> exact t32i _)) (show 3 = sm_na m_Model_isSystem by decide +kernel) (law_lk _ (List.mem_of_getElem? (i := 31) rfl)) hl.1 (show 1 + 0 ≤ 8 by decide) dl_928 bd.1 bd.2 (show 1 + t ≤ 1000 by omega) (show 1 + 6 * t ≤ 10000 by omega) rfl rfl (fun ad2 cl2 H2 locs2 S2 hex2 hn2 _ => ?_)
  refine lv_icmp_eq (tgt := 1246) hx hb dl_931 (by decide) (fun _ => ?_) (fun q => absurd rfl q)
  have n1 : zN z ≤ zN z1 := hn
  refine K z1 I2 ad2 cl2 H2 locs2 ls f t (Nat.le_succ _) ⟨j2, usW_trans u u2, S2, ?_, ?_, ?_, ?_, hl⟩
  · rw [(hex2 1 (show 1 < zN z1 by omega)).1, (hex 1 (show 1 < zN z by omega)).1]; exact e1
  · rw [(hex2 209 (show 209 < zN z1 by omega)).1, (hex 209 (show 209 < zN z by omega)).1]; exact e2
  · exact ((hex 1 (show 1 < zN z by omega)).2).trans T1
  · exact ((hex 209 (show 209 < zN z by omega)).2).trans T2
theorem lc_17 (C : lwC l p s m meth c b L xs D cA) (hB : lwB zs) (hi : i + 7 ≤ L) (ht : t ≤ 512) (N : lwN s D cA b qo q1 q2 i zs z I ad cl H locs ls f) (K : ∀ (z1 : cm_Z) (I1 : cm_I) (ad1 : Nat → Nat) (cl1 : Nat → ClassId) (H1 : Heap) (locs1 : List Loc) (ls1 : Array Slot) (f1 : Nat → Int64) (t1 : Nat), t1 ≤ t + 1 → lwN s D cA b qo q1 q2 i zs z1 I1 ad1 cl1 H1 locs1 ls1 f1 → W p l e room_1 s m #[Value.ref b] below meth c H1 locs1 (zC z1 + (1 + t1)) (zS z1 + (1 + 6 * t1)) Q (F0 m 1246 ls1 [])) : W p l e room_1 s m #[Value.ref b] below meth c H locs (zC z + (1 + t)) (zS z + (1 + 6 * t)) Q (F0 m 936 ls []) := by
  obtain ⟨hx, hb, hml, hown, hts, hX, hbl, hG, hKl, hT, hst, hL⟩ := C
  obtain ⟨j, u, S, e1, e2, T1, T2, hl⟩ := N
  obtain ⟨v, I1, z1, I2, c1, c2, j2, u2⟩ := j_primary j (xs (i + 1)).toInt (xs (i + 2)).toInt
  have bd := hB z1 I2 (usW_trans u u2) j2
  have n0 := jW_N j
  refine lv_aload_n hx hb dl_936 rfl (lv_at hl 3 rfl) ?_
  refine lw_arg (j := 1) hx hb hX hbl S.2.2.1 (lv_at hl 4 rfl) (lv_at hl 0 rfl) (by omega) hL (by decide) dl_937 dl_938 dl_940 dl_941 dl_942 ?_
  refine lw_arg (j := 2) hx hb hX hbl S.2.2.1 (lv_at hl 4 rfl) (lv_at hl 0 rfl) (by omega) hL (by decide) dl_943 dl_944 dl_946 dl_947 dl_948 ?_
  rw [← e1]
  refine lw_cx (as2 := [vI (xs (i + 1)).toInt, vI (xs (i + 2)).toInt]) (rest := []) (k2 := m_Works_primary) (a := 1) hx hb hml hown hts hG S c1 (by decide +kernel) (by decide) (show 1 < zN z by omega) T1 (by intro x hx; simp only [List.mem_cons, List.not_mem_nil, or_false] at hx; (rcases hx with rfl | rfl <;> exact t32i _)) (show 2 = sm_na m_Works_primary by decide +kernel) (law_lk _ (List.mem_of_getElem? (i := 32) rfl)) hl.1 (by decide) dl_949 bd.1 bd.2 (show 1 + t ≤ 1000 by omega) (show 1 + 6 * t ≤ 10000 by omega) rfl rfl (fun ad1 cl1 H1 locs1 S1 hex hn _ => ?_)
  have S := S1
  refine lv_aload_n hx hb dl_952 rfl (lv_at hl 2 rfl) ?_
  refine lw_arg (j := 1) hx hb hX hbl S.2.2.1 (lv_at hl 4 rfl) (lv_at hl 0 rfl) (by omega) hL (by decide) dl_953 dl_954 dl_956 dl_957 dl_958 ?_
  refine lw_arg (j := 2) hx hb hX hbl S.2.2.1 (lv_at hl 4 rfl) (lv_at hl 0 rfl) (by omega) hL (by decide) dl_959 dl_960 dl_962 dl_963 dl_964 ?_
  rw [← e2, ← (hex 209 (show 209 < zN z by omega)).1]
  refine lw_cx (as2 := [vI (xs (i + 1)).toInt, vI (xs (i + 2)).toInt]) (rest := [.int (Int32.ofInt v)]) (k2 := m_Model_primary) (a := 209) hx hb hml hown hts hG S c2 (by decide +kernel) (by decide) (show 209 < zN z1 by have := (show zN z ≤ zN z1 from hn); omega) ((hex 209 (show 209 < zN z by omega)).2.trans T2) (by intro x hx; simp only [List.mem_cons, List.not_mem_nil, or_false] at hx; (rcases hx with rfl | rfl <;> exact t32i _)) (show 2 = sm_na m_Model_primary by decide +kernel) (law_lk _ (List.mem_of_getElem? (i := 33) rfl)) hl.1 (show 1 + 0 ≤ 8 by decide) dl_965 bd.1 bd.2 (show 1 + t ≤ 1000 by omega) (show 1 + 6 * t ≤ 10000 by omega) rfl rfl (fun ad2 cl2 H2 locs2 S2 hex2 hn2 _ => ?_)
  refine lv_icmp_eq (tgt := 1246) hx hb dl_968 (by decide) (fun _ => ?_) (fun q => absurd rfl q)
  have n1 : zN z ≤ zN z1 := hn
  refine K z1 I2 ad2 cl2 H2 locs2 ls f t (Nat.le_succ _) ⟨j2, usW_trans u u2, S2, ?_, ?_, ?_, ?_, hl⟩
  · rw [(hex2 1 (show 1 < zN z1 by omega)).1, (hex 1 (show 1 < zN z by omega)).1]; exact e1
  · rw [(hex2 209 (show 209 < zN z1 by omega)).1, (hex 209 (show 209 < zN z by omega)).1]; exact e2
  · exact ((hex 1 (show 1 < zN z by omega)).2).trans T1
  · exact ((hex 209 (show 209 < zN z by omega)).2).trans T2
theorem lc_18 (C : lwC l p s m meth c b L xs D cA) (hB : lwB zs) (hi : i + 7 ≤ L) (ht : t ≤ 512) (N : lwN s D cA b qo q1 q2 i zs z I ad cl H locs ls f) (K : ∀ (z1 : cm_Z) (I1 : cm_I) (ad1 : Nat → Nat) (cl1 : Nat → ClassId) (H1 : Heap) (locs1 : List Loc) (ls1 : Array Slot) (f1 : Nat → Int64) (t1 : Nat), t1 ≤ t + 1 → lwN s D cA b qo q1 q2 i zs z1 I1 ad1 cl1 H1 locs1 ls1 f1 → W p l e room_1 s m #[Value.ref b] below meth c H1 locs1 (zC z1 + (1 + t1)) (zS z1 + (1 + 6 * t1)) Q (F0 m 1246 ls1 [])) : W p l e room_1 s m #[Value.ref b] below meth c H locs (zC z + (1 + t)) (zS z + (1 + 6 * t)) Q (F0 m 973 ls []) := by
  obtain ⟨hx, hb, hml, hown, hts, hX, hbl, hG, hKl, hT, hst, hL⟩ := C
  obtain ⟨j, u, S, e1, e2, T1, T2, hl⟩ := N
  obtain ⟨v, I1, z1, I2, c1, c2, j2, u2⟩ := j_secondaries j 
  have bd := hB z1 I2 (usW_trans u u2) j2
  have n0 := jW_N j
  refine lv_aload_n hx hb dl_973 rfl (lv_at hl 3 rfl) ?_
  rw [← e1]
  refine lw_cx (as2 := []) (rest := []) (k2 := m_Works_secondaries) (a := 1) hx hb hml hown hts hG S c1 (by decide +kernel) (by decide) (show 1 < zN z by omega) T1 (fun x hx => by cases hx) (show 0 = sm_na m_Works_secondaries by decide +kernel) (law_lk _ (List.mem_of_getElem? (i := 34) rfl)) hl.1 (by decide) dl_974 bd.1 bd.2 (show 1 + t ≤ 1000 by omega) (show 1 + 6 * t ≤ 10000 by omega) rfl rfl (fun ad1 cl1 H1 locs1 S1 hex hn _ => ?_)
  have S := S1
  refine lv_aload_n hx hb dl_977 rfl (lv_at hl 2 rfl) ?_
  rw [← e2, ← (hex 209 (show 209 < zN z by omega)).1]
  refine lw_cx (as2 := []) (rest := [.int (Int32.ofInt v)]) (k2 := m_Model_secondaries) (a := 209) hx hb hml hown hts hG S c2 (by decide +kernel) (by decide) (show 209 < zN z1 by have := (show zN z ≤ zN z1 from hn); omega) ((hex 209 (show 209 < zN z by omega)).2.trans T2) (fun x hx => by cases hx) (show 0 = sm_na m_Model_secondaries by decide +kernel) (law_lk _ (List.mem_of_getElem? (i := 35) rfl)) hl.1 (show 1 + 0 ≤ 8 by decide) dl_978 bd.1 bd.2 (show 1 + t ≤ 1000 by omega) (show 1 + 6 * t ≤ 10000 by omega) rfl rfl (fun ad2 cl2 H2 locs2 S2 hex2 hn2 _ => ?_)
  refine lv_icmp_eq (tgt := 1246) hx hb dl_981 (by decide) (fun _ => ?_) (fun q => absurd rfl q)
  have n1 : zN z ≤ zN z1 := hn
  refine K z1 I2 ad2 cl2 H2 locs2 ls f t (Nat.le_succ _) ⟨j2, usW_trans u u2, S2, ?_, ?_, ?_, ?_, hl⟩
  · rw [(hex2 1 (show 1 < zN z1 by omega)).1, (hex 1 (show 1 < zN z by omega)).1]; exact e1
  · rw [(hex2 209 (show 209 < zN z1 by omega)).1, (hex 209 (show 209 < zN z by omega)).1]; exact e2
  · exact ((hex 1 (show 1 < zN z by omega)).2).trans T1
  · exact ((hex 209 (show 209 < zN z by omega)).2).trans T2
theorem lc_19 (C : lwC l p s m meth c b L xs D cA) (hB : lwB zs) (hi : i + 7 ≤ L) (ht : t ≤ 512) (N : lwN s D cA b qo q1 q2 i zs z I ad cl H locs ls f) (K : ∀ (z1 : cm_Z) (I1 : cm_I) (ad1 : Nat → Nat) (cl1 : Nat → ClassId) (H1 : Heap) (locs1 : List Loc) (ls1 : Array Slot) (f1 : Nat → Int64) (t1 : Nat), t1 ≤ t + 1 → lwN s D cA b qo q1 q2 i zs z1 I1 ad1 cl1 H1 locs1 ls1 f1 → W p l e room_1 s m #[Value.ref b] below meth c H1 locs1 (zC z1 + (1 + t1)) (zS z1 + (1 + 6 * t1)) Q (F0 m 1246 ls1 [])) : W p l e room_1 s m #[Value.ref b] below meth c H locs (zC z + (1 + t)) (zS z + (1 + 6 * t)) Q (F0 m 986 ls []) := by
  obtain ⟨hx, hb, hml, hown, hts, hX, hbl, hG, hKl, hT, hst, hL⟩ := C
  obtain ⟨j, u, S, e1, e2, T1, T2, hl⟩ := N
  obtain ⟨v, I1, z1, I2, c1, c2, j2, u2⟩ := j_secondary j (xs (i + 1)).toInt (xs (i + 2)).toInt
  have bd := hB z1 I2 (usW_trans u u2) j2
  have n0 := jW_N j
  refine lv_aload_n hx hb dl_986 rfl (lv_at hl 3 rfl) ?_
  refine lw_arg (j := 1) hx hb hX hbl S.2.2.1 (lv_at hl 4 rfl) (lv_at hl 0 rfl) (by omega) hL (by decide) dl_987 dl_988 dl_990 dl_991 dl_992 ?_
  refine lw_arg (j := 2) hx hb hX hbl S.2.2.1 (lv_at hl 4 rfl) (lv_at hl 0 rfl) (by omega) hL (by decide) dl_993 dl_994 dl_996 dl_997 dl_998 ?_
  rw [← e1]
  refine lw_cx (as2 := [vI (xs (i + 1)).toInt, vI (xs (i + 2)).toInt]) (rest := []) (k2 := m_Works_secondary) (a := 1) hx hb hml hown hts hG S c1 (by decide +kernel) (by decide) (show 1 < zN z by omega) T1 (by intro x hx; simp only [List.mem_cons, List.not_mem_nil, or_false] at hx; (rcases hx with rfl | rfl <;> exact t32i _)) (show 2 = sm_na m_Works_secondary by decide +kernel) (law_lk _ (List.mem_of_getElem? (i := 36) rfl)) hl.1 (by decide) dl_999 bd.1 bd.2 (show 1 + t ≤ 1000 by omega) (show 1 + 6 * t ≤ 10000 by omega) rfl rfl (fun ad1 cl1 H1 locs1 S1 hex hn _ => ?_)
  have S := S1
  refine lv_aload_n hx hb dl_1002 rfl (lv_at hl 2 rfl) ?_
  refine lw_arg (j := 1) hx hb hX hbl S.2.2.1 (lv_at hl 4 rfl) (lv_at hl 0 rfl) (by omega) hL (by decide) dl_1003 dl_1004 dl_1006 dl_1007 dl_1008 ?_
  refine lw_arg (j := 2) hx hb hX hbl S.2.2.1 (lv_at hl 4 rfl) (lv_at hl 0 rfl) (by omega) hL (by decide) dl_1009 dl_1010 dl_1012 dl_1013 dl_1014 ?_
  rw [← e2, ← (hex 209 (show 209 < zN z by omega)).1]
  refine lw_cx (as2 := [vI (xs (i + 1)).toInt, vI (xs (i + 2)).toInt]) (rest := [.int (Int32.ofInt v)]) (k2 := m_Model_secondary) (a := 209) hx hb hml hown hts hG S c2 (by decide +kernel) (by decide) (show 209 < zN z1 by have := (show zN z ≤ zN z1 from hn); omega) ((hex 209 (show 209 < zN z by omega)).2.trans T2) (by intro x hx; simp only [List.mem_cons, List.not_mem_nil, or_false] at hx; (rcases hx with rfl | rfl <;> exact t32i _)) (show 2 = sm_na m_Model_secondary by decide +kernel) (law_lk _ (List.mem_of_getElem? (i := 37) rfl)) hl.1 (show 1 + 0 ≤ 8 by decide) dl_1015 bd.1 bd.2 (show 1 + t ≤ 1000 by omega) (show 1 + 6 * t ≤ 10000 by omega) rfl rfl (fun ad2 cl2 H2 locs2 S2 hex2 hn2 _ => ?_)
  refine lv_icmp_eq (tgt := 1246) hx hb dl_1018 (by decide) (fun _ => ?_) (fun q => absurd rfl q)
  have n1 : zN z ≤ zN z1 := hn
  refine K z1 I2 ad2 cl2 H2 locs2 ls f t (Nat.le_succ _) ⟨j2, usW_trans u u2, S2, ?_, ?_, ?_, ?_, hl⟩
  · rw [(hex2 1 (show 1 < zN z1 by omega)).1, (hex 1 (show 1 < zN z by omega)).1]; exact e1
  · rw [(hex2 209 (show 209 < zN z1 by omega)).1, (hex 209 (show 209 < zN z by omega)).1]; exact e2
  · exact ((hex 1 (show 1 < zN z by omega)).2).trans T1
  · exact ((hex 209 (show 209 < zN z by omega)).2).trans T2
theorem lc_20 (C : lwC l p s m meth c b L xs D cA) (hB : lwB zs) (hi : i + 7 ≤ L) (ht : t ≤ 512) (N : lwN s D cA b qo q1 q2 i zs z I ad cl H locs ls f) (K : ∀ (z1 : cm_Z) (I1 : cm_I) (ad1 : Nat → Nat) (cl1 : Nat → ClassId) (H1 : Heap) (locs1 : List Loc) (ls1 : Array Slot) (f1 : Nat → Int64) (t1 : Nat), t1 ≤ t + 1 → lwN s D cA b qo q1 q2 i zs z1 I1 ad1 cl1 H1 locs1 ls1 f1 → W p l e room_1 s m #[Value.ref b] below meth c H1 locs1 (zC z1 + (1 + t1)) (zS z1 + (1 + 6 * t1)) Q (F0 m 1246 ls1 [])) : W p l e room_1 s m #[Value.ref b] below meth c H locs (zC z + (1 + t)) (zS z + (1 + 6 * t)) Q (F0 m 1023 ls []) := by
  obtain ⟨hx, hb, hml, hown, hts, hX, hbl, hG, hKl, hT, hst, hL⟩ := C
  obtain ⟨j, u, S, e1, e2, T1, T2, hl⟩ := N
  obtain ⟨v, I1, z1, I2, c1, c2, j2, u2⟩ := j_numerator j (xs (i + 1)).toInt
  have bd := hB z1 I2 (usW_trans u u2) j2
  have n0 := jW_N j
  refine lv_aload_n hx hb dl_1023 rfl (lv_at hl 3 rfl) ?_
  refine lw_arg (j := 1) hx hb hX hbl S.2.2.1 (lv_at hl 4 rfl) (lv_at hl 0 rfl) (by omega) hL (by decide) dl_1024 dl_1025 dl_1027 dl_1028 dl_1029 ?_
  rw [← e1]
  refine lw_cx (as2 := [vI (xs (i + 1)).toInt]) (rest := []) (k2 := m_Works_numerator) (a := 1) hx hb hml hown hts hG S c1 (by decide +kernel) (by decide) (show 1 < zN z by omega) T1 (by intro x hx; simp only [List.mem_cons, List.not_mem_nil, or_false] at hx; (rcases hx with rfl <;> exact t32i _)) (show 1 = sm_na m_Works_numerator by decide +kernel) (law_lk _ (List.mem_of_getElem? (i := 38) rfl)) hl.1 (by decide) dl_1030 bd.1 bd.2 (show 1 + t ≤ 1000 by omega) (show 1 + 6 * t ≤ 10000 by omega) rfl rfl (fun ad1 cl1 H1 locs1 S1 hex hn _ => ?_)
  have S := S1
  refine lv_aload_n hx hb dl_1033 rfl (lv_at hl 2 rfl) ?_
  refine lw_arg (j := 1) hx hb hX hbl S.2.2.1 (lv_at hl 4 rfl) (lv_at hl 0 rfl) (by omega) hL (by decide) dl_1034 dl_1035 dl_1037 dl_1038 dl_1039 ?_
  rw [← e2, ← (hex 209 (show 209 < zN z by omega)).1]
  refine lw_cx (as2 := [vI (xs (i + 1)).toInt]) (rest := [.int (Int32.ofInt v)]) (k2 := m_Model_numerator) (a := 209) hx hb hml hown hts hG S c2 (by decide +kernel) (by decide) (show 209 < zN z1 by have := (show zN z ≤ zN z1 from hn); omega) ((hex 209 (show 209 < zN z by omega)).2.trans T2) (by intro x hx; simp only [List.mem_cons, List.not_mem_nil, or_false] at hx; (rcases hx with rfl <;> exact t32i _)) (show 1 = sm_na m_Model_numerator by decide +kernel) (law_lk _ (List.mem_of_getElem? (i := 39) rfl)) hl.1 (show 1 + 0 ≤ 8 by decide) dl_1040 bd.1 bd.2 (show 1 + t ≤ 1000 by omega) (show 1 + 6 * t ≤ 10000 by omega) rfl rfl (fun ad2 cl2 H2 locs2 S2 hex2 hn2 _ => ?_)
  refine lv_icmp_eq (tgt := 1246) hx hb dl_1043 (by decide) (fun _ => ?_) (fun q => absurd rfl q)
  have n1 : zN z ≤ zN z1 := hn
  refine K z1 I2 ad2 cl2 H2 locs2 ls f t (Nat.le_succ _) ⟨j2, usW_trans u u2, S2, ?_, ?_, ?_, ?_, hl⟩
  · rw [(hex2 1 (show 1 < zN z1 by omega)).1, (hex 1 (show 1 < zN z by omega)).1]; exact e1
  · rw [(hex2 209 (show 209 < zN z1 by omega)).1, (hex 209 (show 209 < zN z by omega)).1]; exact e2
  · exact ((hex 1 (show 1 < zN z by omega)).2).trans T1
  · exact ((hex 209 (show 209 < zN z by omega)).2).trans T2
theorem lc_21 (C : lwC l p s m meth c b L xs D cA) (hB : lwB zs) (hi : i + 7 ≤ L) (ht : t ≤ 512) (N : lwN s D cA b qo q1 q2 i zs z I ad cl H locs ls f) (K : ∀ (z1 : cm_Z) (I1 : cm_I) (ad1 : Nat → Nat) (cl1 : Nat → ClassId) (H1 : Heap) (locs1 : List Loc) (ls1 : Array Slot) (f1 : Nat → Int64) (t1 : Nat), t1 ≤ t + 1 → lwN s D cA b qo q1 q2 i zs z1 I1 ad1 cl1 H1 locs1 ls1 f1 → W p l e room_1 s m #[Value.ref b] below meth c H1 locs1 (zC z1 + (1 + t1)) (zS z1 + (1 + 6 * t1)) Q (F0 m 1246 ls1 [])) : W p l e room_1 s m #[Value.ref b] below meth c H locs (zC z + (1 + t)) (zS z + (1 + 6 * t)) Q (F0 m 1048 ls []) := by
  obtain ⟨hx, hb, hml, hown, hts, hX, hbl, hG, hKl, hT, hst, hL⟩ := C
  obtain ⟨j, u, S, e1, e2, T1, T2, hl⟩ := N
  obtain ⟨v, I1, z1, I2, c1, c2, j2, u2⟩ := j_rewrite j (xs (i + 1)).toInt
  have bd := hB z1 I2 (usW_trans u u2) j2
  have n0 := jW_N j
  refine lv_aload_n hx hb dl_1048 rfl (lv_at hl 3 rfl) ?_
  refine lw_arg (j := 1) hx hb hX hbl S.2.2.1 (lv_at hl 4 rfl) (lv_at hl 0 rfl) (by omega) hL (by decide) dl_1049 dl_1050 dl_1052 dl_1053 dl_1054 ?_
  rw [← e1]
  refine lw_cx (as2 := [vI (xs (i + 1)).toInt]) (rest := []) (k2 := m_Works_rewrite) (a := 1) hx hb hml hown hts hG S c1 (by decide +kernel) (by decide) (show 1 < zN z by omega) T1 (by intro x hx; simp only [List.mem_cons, List.not_mem_nil, or_false] at hx; (rcases hx with rfl <;> exact t32i _)) (show 1 = sm_na m_Works_rewrite by decide +kernel) (law_lk _ (List.mem_of_getElem? (i := 40) rfl)) hl.1 (by decide) dl_1055 bd.1 bd.2 (show 1 + t ≤ 1000 by omega) (show 1 + 6 * t ≤ 10000 by omega) rfl rfl (fun ad1 cl1 H1 locs1 S1 hex hn _ => ?_)
  have S := S1
  refine lv_aload_n hx hb dl_1058 rfl (lv_at hl 2 rfl) ?_
  refine lw_arg (j := 1) hx hb hX hbl S.2.2.1 (lv_at hl 4 rfl) (lv_at hl 0 rfl) (by omega) hL (by decide) dl_1059 dl_1060 dl_1062 dl_1063 dl_1064 ?_
  rw [← e2, ← (hex 209 (show 209 < zN z by omega)).1]
  refine lw_cx (as2 := [vI (xs (i + 1)).toInt]) (rest := [.int (Int32.ofInt v)]) (k2 := m_Model_rewrite) (a := 209) hx hb hml hown hts hG S c2 (by decide +kernel) (by decide) (show 209 < zN z1 by have := (show zN z ≤ zN z1 from hn); omega) ((hex 209 (show 209 < zN z by omega)).2.trans T2) (by intro x hx; simp only [List.mem_cons, List.not_mem_nil, or_false] at hx; (rcases hx with rfl <;> exact t32i _)) (show 1 = sm_na m_Model_rewrite by decide +kernel) (law_lk _ (List.mem_of_getElem? (i := 41) rfl)) hl.1 (show 1 + 0 ≤ 8 by decide) dl_1065 bd.1 bd.2 (show 1 + t ≤ 1000 by omega) (show 1 + 6 * t ≤ 10000 by omega) rfl rfl (fun ad2 cl2 H2 locs2 S2 hex2 hn2 _ => ?_)
  refine lv_icmp_eq (tgt := 1246) hx hb dl_1068 (by decide) (fun _ => ?_) (fun q => absurd rfl q)
  have n1 : zN z ≤ zN z1 := hn
  refine K z1 I2 ad2 cl2 H2 locs2 ls f t (Nat.le_succ _) ⟨j2, usW_trans u u2, S2, ?_, ?_, ?_, ?_, hl⟩
  · rw [(hex2 1 (show 1 < zN z1 by omega)).1, (hex 1 (show 1 < zN z by omega)).1]; exact e1
  · rw [(hex2 209 (show 209 < zN z1 by omega)).1, (hex 209 (show 209 < zN z by omega)).1]; exact e2
  · exact ((hex 1 (show 1 < zN z by omega)).2).trans T1
  · exact ((hex 209 (show 209 < zN z by omega)).2).trans T2
theorem lc_22 (C : lwC l p s m meth c b L xs D cA) (hB : lwB zs) (hi : i + 7 ≤ L) (ht : t ≤ 512) (N : lwN s D cA b qo q1 q2 i zs z I ad cl H locs ls f) (K : ∀ (z1 : cm_Z) (I1 : cm_I) (ad1 : Nat → Nat) (cl1 : Nat → ClassId) (H1 : Heap) (locs1 : List Loc) (ls1 : Array Slot) (f1 : Nat → Int64) (t1 : Nat), t1 ≤ t + 1 → lwN s D cA b qo q1 q2 i zs z1 I1 ad1 cl1 H1 locs1 ls1 f1 → W p l e room_1 s m #[Value.ref b] below meth c H1 locs1 (zC z1 + (1 + t1)) (zS z1 + (1 + 6 * t1)) Q (F0 m 1246 ls1 [])) : W p l e room_1 s m #[Value.ref b] below meth c H locs (zC z + (1 + t)) (zS z + (1 + 6 * t)) Q (F0 m 1073 ls []) := by
  obtain ⟨hx, hb, hml, hown, hts, hX, hbl, hG, hKl, hT, hst, hL⟩ := C
  obtain ⟨j, u, S, e1, e2, T1, T2, hl⟩ := N
  obtain ⟨v, I1, z1, I2, c1, c2, j2, u2⟩ := j_rewritten j (xs (i + 1)).toInt (xs (i + 2)).toInt (xs (i + 3)).toInt (xs (i + 4)).toInt (t32 _) (t32 _) (t32 _)
  have bd := hB z1 I2 (usW_trans u u2) j2
  have n0 := jW_N j
  refine lv_aload_n hx hb dl_1073 rfl (lv_at hl 3 rfl) ?_
  refine lw_arg (j := 1) hx hb hX hbl S.2.2.1 (lv_at hl 4 rfl) (lv_at hl 0 rfl) (by omega) hL (by decide) dl_1074 dl_1075 dl_1077 dl_1078 dl_1079 ?_
  refine lw_arg (j := 2) hx hb hX hbl S.2.2.1 (lv_at hl 4 rfl) (lv_at hl 0 rfl) (by omega) hL (by decide) dl_1080 dl_1081 dl_1083 dl_1084 dl_1085 ?_
  refine lw_arg (j := 3) hx hb hX hbl S.2.2.1 (lv_at hl 4 rfl) (lv_at hl 0 rfl) (by omega) hL (by decide) dl_1086 dl_1087 dl_1089 dl_1090 dl_1091 ?_
  refine lw_arg (j := 4) hx hb hX hbl S.2.2.1 (lv_at hl 4 rfl) (lv_at hl 0 rfl) (by omega) hL (by decide) dl_1092 dl_1093 dl_1095 dl_1096 dl_1097 ?_
  rw [← e1]
  refine lw_cx (as2 := [vI (xs (i + 1)).toInt, vI (xs (i + 2)).toInt, vI (xs (i + 3)).toInt, vI (xs (i + 4)).toInt]) (rest := []) (k2 := m_Works_rewritten) (a := 1) hx hb hml hown hts hG S c1 (by decide +kernel) (by decide) (show 1 < zN z by omega) T1 (by intro x hx; simp only [List.mem_cons, List.not_mem_nil, or_false] at hx; (rcases hx with rfl | rfl | rfl | rfl <;> exact t32i _)) (show 4 = sm_na m_Works_rewritten by decide +kernel) (law_lk _ (List.mem_of_getElem? (i := 42) rfl)) hl.1 (by decide) dl_1098 bd.1 bd.2 (show 1 + t ≤ 1000 by omega) (show 1 + 6 * t ≤ 10000 by omega) rfl rfl (fun ad1 cl1 H1 locs1 S1 hex hn _ => ?_)
  have S := S1
  refine lv_aload_n hx hb dl_1101 rfl (lv_at hl 2 rfl) ?_
  refine lw_arg (j := 1) hx hb hX hbl S.2.2.1 (lv_at hl 4 rfl) (lv_at hl 0 rfl) (by omega) hL (by decide) dl_1102 dl_1103 dl_1105 dl_1106 dl_1107 ?_
  refine lw_arg (j := 2) hx hb hX hbl S.2.2.1 (lv_at hl 4 rfl) (lv_at hl 0 rfl) (by omega) hL (by decide) dl_1108 dl_1109 dl_1111 dl_1112 dl_1113 ?_
  refine lw_arg (j := 3) hx hb hX hbl S.2.2.1 (lv_at hl 4 rfl) (lv_at hl 0 rfl) (by omega) hL (by decide) dl_1114 dl_1115 dl_1117 dl_1118 dl_1119 ?_
  refine lw_arg (j := 4) hx hb hX hbl S.2.2.1 (lv_at hl 4 rfl) (lv_at hl 0 rfl) (by omega) hL (by decide) dl_1120 dl_1121 dl_1123 dl_1124 dl_1125 ?_
  rw [← e2, ← (hex 209 (show 209 < zN z by omega)).1]
  refine lw_cx (as2 := [vI (xs (i + 1)).toInt, vI (xs (i + 2)).toInt, vI (xs (i + 3)).toInt, vI (xs (i + 4)).toInt]) (rest := [.int (Int32.ofInt v)]) (k2 := m_Model_rewritten) (a := 209) hx hb hml hown hts hG S c2 (by decide +kernel) (by decide) (show 209 < zN z1 by have := (show zN z ≤ zN z1 from hn); omega) ((hex 209 (show 209 < zN z by omega)).2.trans T2) (by intro x hx; simp only [List.mem_cons, List.not_mem_nil, or_false] at hx; (rcases hx with rfl | rfl | rfl | rfl <;> exact t32i _)) (show 4 = sm_na m_Model_rewritten by decide +kernel) (law_lk _ (List.mem_of_getElem? (i := 43) rfl)) hl.1 (show 1 + 0 ≤ 8 by decide) dl_1126 bd.1 bd.2 (show 1 + t ≤ 1000 by omega) (show 1 + 6 * t ≤ 10000 by omega) rfl rfl (fun ad2 cl2 H2 locs2 S2 hex2 hn2 _ => ?_)
  refine lv_icmp_eq (tgt := 1246) hx hb dl_1129 (by decide) (fun _ => ?_) (fun q => absurd rfl q)
  have n1 : zN z ≤ zN z1 := hn
  refine K z1 I2 ad2 cl2 H2 locs2 ls f t (Nat.le_succ _) ⟨j2, usW_trans u u2, S2, ?_, ?_, ?_, ?_, hl⟩
  · rw [(hex2 1 (show 1 < zN z1 by omega)).1, (hex 1 (show 1 < zN z by omega)).1]; exact e1
  · rw [(hex2 209 (show 209 < zN z1 by omega)).1, (hex 209 (show 209 < zN z by omega)).1]; exact e2
  · exact ((hex 1 (show 1 < zN z by omega)).2).trans T1
  · exact ((hex 209 (show 209 < zN z by omega)).2).trans T2
theorem lc_23 (C : lwC l p s m meth c b L xs D cA) (hB : lwB zs) (hi : i + 7 ≤ L) (ht : t ≤ 512) (N : lwN s D cA b qo q1 q2 i zs z I ad cl H locs ls f) (K : ∀ (z1 : cm_Z) (I1 : cm_I) (ad1 : Nat → Nat) (cl1 : Nat → ClassId) (H1 : Heap) (locs1 : List Loc) (ls1 : Array Slot) (f1 : Nat → Int64) (t1 : Nat), t1 ≤ t + 1 → lwN s D cA b qo q1 q2 i zs z1 I1 ad1 cl1 H1 locs1 ls1 f1 → W p l e room_1 s m #[Value.ref b] below meth c H1 locs1 (zC z1 + (1 + t1)) (zS z1 + (1 + 6 * t1)) Q (F0 m 1246 ls1 [])) : W p l e room_1 s m #[Value.ref b] below meth c H locs (zC z + (1 + t)) (zS z + (1 + 6 * t)) Q (F0 m 1134 ls []) := by
  obtain ⟨hx, hb, hml, hown, hts, hX, hbl, hG, hKl, hT, hst, hL⟩ := C
  obtain ⟨j, u, S, e1, e2, T1, T2, hl⟩ := N
  obtain ⟨v, I1, z1, I2, c1, c2, j2, u2⟩ := j_relation j (xs (i + 1)).toInt (xs (i + 2)).toInt (xs (i + 3)).toInt (xs (i + 4)).toInt (xs (i + 5)).toInt (xs (i + 6)).toInt (t32 _) (t32 _) (t32 _)
  have bd := hB z1 I2 (usW_trans u u2) j2
  have n0 := jW_N j
  refine lv_aload_n hx hb dl_1134 rfl (lv_at hl 3 rfl) ?_
  refine lw_arg (j := 1) hx hb hX hbl S.2.2.1 (lv_at hl 4 rfl) (lv_at hl 0 rfl) (by omega) hL (by decide) dl_1135 dl_1136 dl_1138 dl_1139 dl_1140 ?_
  refine lw_arg (j := 2) hx hb hX hbl S.2.2.1 (lv_at hl 4 rfl) (lv_at hl 0 rfl) (by omega) hL (by decide) dl_1141 dl_1142 dl_1144 dl_1145 dl_1146 ?_
  refine lw_arg (j := 3) hx hb hX hbl S.2.2.1 (lv_at hl 4 rfl) (lv_at hl 0 rfl) (by omega) hL (by decide) dl_1147 dl_1148 dl_1150 dl_1151 dl_1152 ?_
  refine lw_arg (j := 4) hx hb hX hbl S.2.2.1 (lv_at hl 4 rfl) (lv_at hl 0 rfl) (by omega) hL (by decide) dl_1153 dl_1154 dl_1156 dl_1157 dl_1158 ?_
  refine lw_arg (j := 5) hx hb hX hbl S.2.2.1 (lv_at hl 4 rfl) (lv_at hl 0 rfl) (by omega) hL (by decide) dl_1159 dl_1160 dl_1162 dl_1163 dl_1164 ?_
  refine lw_argB (j := 6) hx hb hX hbl S.2.2.1 (lv_at hl 4 rfl) (lv_at hl 0 rfl) (by omega) hL (by decide) dl_1165 dl_1166 dl_1168 dl_1170 dl_1171 ?_
  rw [← e1]
  refine lw_cx (as2 := [vI (xs (i + 1)).toInt, vI (xs (i + 2)).toInt, vI (xs (i + 3)).toInt, vI (xs (i + 4)).toInt, vI (xs (i + 5)).toInt, vI (xs (i + 6)).toInt]) (rest := []) (k2 := m_Works_relation) (a := 1) hx hb hml hown hts hG S c1 (by decide +kernel) (by decide) (show 1 < zN z by omega) T1 (by intro x hx; simp only [List.mem_cons, List.not_mem_nil, or_false] at hx; (rcases hx with rfl | rfl | rfl | rfl | rfl | rfl <;> exact t32i _)) (show 6 = sm_na m_Works_relation by decide +kernel) (law_lk _ (List.mem_of_getElem? (i := 44) rfl)) hl.1 (by decide) dl_1172 bd.1 bd.2 (show 1 + t ≤ 1000 by omega) (show 1 + 6 * t ≤ 10000 by omega) rfl rfl (fun ad1 cl1 H1 locs1 S1 hex hn _ => ?_)
  have S := S1
  refine lv_aload_n hx hb dl_1175 rfl (lv_at hl 2 rfl) ?_
  refine lw_arg (j := 1) hx hb hX hbl S.2.2.1 (lv_at hl 4 rfl) (lv_at hl 0 rfl) (by omega) hL (by decide) dl_1176 dl_1177 dl_1179 dl_1180 dl_1181 ?_
  refine lw_arg (j := 2) hx hb hX hbl S.2.2.1 (lv_at hl 4 rfl) (lv_at hl 0 rfl) (by omega) hL (by decide) dl_1182 dl_1183 dl_1185 dl_1186 dl_1187 ?_
  refine lw_arg (j := 3) hx hb hX hbl S.2.2.1 (lv_at hl 4 rfl) (lv_at hl 0 rfl) (by omega) hL (by decide) dl_1188 dl_1189 dl_1191 dl_1192 dl_1193 ?_
  refine lw_arg (j := 4) hx hb hX hbl S.2.2.1 (lv_at hl 4 rfl) (lv_at hl 0 rfl) (by omega) hL (by decide) dl_1194 dl_1195 dl_1197 dl_1198 dl_1199 ?_
  refine lw_arg (j := 5) hx hb hX hbl S.2.2.1 (lv_at hl 4 rfl) (lv_at hl 0 rfl) (by omega) hL (by decide) dl_1200 dl_1201 dl_1203 dl_1204 dl_1205 ?_
  refine lw_argB (j := 6) hx hb hX hbl S.2.2.1 (lv_at hl 4 rfl) (lv_at hl 0 rfl) (by omega) hL (by decide) dl_1206 dl_1207 dl_1209 dl_1211 dl_1212 ?_
  rw [← e2, ← (hex 209 (show 209 < zN z by omega)).1]
  refine lw_cx (as2 := [vI (xs (i + 1)).toInt, vI (xs (i + 2)).toInt, vI (xs (i + 3)).toInt, vI (xs (i + 4)).toInt, vI (xs (i + 5)).toInt, vI (xs (i + 6)).toInt]) (rest := [.int (Int32.ofInt v)]) (k2 := m_Model_relation) (a := 209) hx hb hml hown hts hG S c2 (by decide +kernel) (by decide) (show 209 < zN z1 by have := (show zN z ≤ zN z1 from hn); omega) ((hex 209 (show 209 < zN z by omega)).2.trans T2) (by intro x hx; simp only [List.mem_cons, List.not_mem_nil, or_false] at hx; (rcases hx with rfl | rfl | rfl | rfl | rfl | rfl <;> exact t32i _)) (show 6 = sm_na m_Model_relation by decide +kernel) (law_lk _ (List.mem_of_getElem? (i := 45) rfl)) hl.1 (show 1 + 0 ≤ 8 by decide) dl_1213 bd.1 bd.2 (show 1 + t ≤ 1000 by omega) (show 1 + 6 * t ≤ 10000 by omega) rfl rfl (fun ad2 cl2 H2 locs2 S2 hex2 hn2 _ => ?_)
  refine lv_icmp_eq (tgt := 1246) hx hb dl_1216 (by decide) (fun _ => ?_) (fun q => absurd rfl q)
  have n1 : zN z ≤ zN z1 := hn
  refine K z1 I2 ad2 cl2 H2 locs2 ls f t (Nat.le_succ _) ⟨j2, usW_trans u u2, S2, ?_, ?_, ?_, ?_, hl⟩
  · rw [(hex2 1 (show 1 < zN z1 by omega)).1, (hex 1 (show 1 < zN z by omega)).1]; exact e1
  · rw [(hex2 209 (show 209 < zN z1 by omega)).1, (hex 209 (show 209 < zN z by omega)).1]; exact e2
  · exact ((hex 1 (show 1 < zN z by omega)).2).trans T1
  · exact ((hex 209 (show 209 < zN z by omega)).2).trans T2
theorem lc_24 (C : lwC l p s m meth c b L xs D cA) (hB : lwB zs) (hi : i + 7 ≤ L) (ht : t ≤ 512) (N : lwN s D cA b qo q1 q2 i zs z I ad cl H locs ls f) (K : ∀ (z1 : cm_Z) (I1 : cm_I) (ad1 : Nat → Nat) (cl1 : Nat → ClassId) (H1 : Heap) (locs1 : List Loc) (ls1 : Array Slot) (f1 : Nat → Int64) (t1 : Nat), t1 ≤ t + 1 → lwN s D cA b qo q1 q2 i zs z1 I1 ad1 cl1 H1 locs1 ls1 f1 → W p l e room_1 s m #[Value.ref b] below meth c H1 locs1 (zC z1 + (1 + t1)) (zS z1 + (1 + 6 * t1)) Q (F0 m 1246 ls1 [])) : W p l e room_1 s m #[Value.ref b] below meth c H locs (zC z + (1 + t)) (zS z + (1 + 6 * t)) Q (F0 m 1221 ls []) := by
  obtain ⟨hx, hb, hml, hown, hts, hX, hbl, hG, hKl, hT, hst, hL⟩ := C
  obtain ⟨j, u, S, e1, e2, T1, T2, hl⟩ := N
  obtain ⟨v, I1, z1, I2, c1, c2, j2, u2⟩ := j_count j (xs (i + 1)).toInt
  have bd := hB z1 I2 (usW_trans u u2) j2
  have n0 := jW_N j
  refine lv_aload_n hx hb dl_1221 rfl (lv_at hl 3 rfl) ?_
  refine lw_arg (j := 1) hx hb hX hbl S.2.2.1 (lv_at hl 4 rfl) (lv_at hl 0 rfl) (by omega) hL (by decide) dl_1222 dl_1223 dl_1225 dl_1226 dl_1227 ?_
  rw [← e1]
  refine lw_cx (as2 := [vI (xs (i + 1)).toInt]) (rest := []) (k2 := m_Works_count) (a := 1) hx hb hml hown hts hG S c1 (by decide +kernel) (by decide) (show 1 < zN z by omega) T1 (by intro x hx; simp only [List.mem_cons, List.not_mem_nil, or_false] at hx; (rcases hx with rfl <;> exact t32i _)) (show 1 = sm_na m_Works_count by decide +kernel) (law_lk _ (List.mem_of_getElem? (i := 46) rfl)) hl.1 (by decide) dl_1228 bd.1 bd.2 (show 1 + t ≤ 1000 by omega) (show 1 + 6 * t ≤ 10000 by omega) rfl rfl (fun ad1 cl1 H1 locs1 S1 hex hn _ => ?_)
  have S := S1
  refine lv_aload_n hx hb dl_1231 rfl (lv_at hl 2 rfl) ?_
  refine lw_arg (j := 1) hx hb hX hbl S.2.2.1 (lv_at hl 4 rfl) (lv_at hl 0 rfl) (by omega) hL (by decide) dl_1232 dl_1233 dl_1235 dl_1236 dl_1237 ?_
  rw [← e2, ← (hex 209 (show 209 < zN z by omega)).1]
  refine lw_cx (as2 := [vI (xs (i + 1)).toInt]) (rest := [.int (Int32.ofInt v)]) (k2 := m_Model_count) (a := 209) hx hb hml hown hts hG S c2 (by decide +kernel) (by decide) (show 209 < zN z1 by have := (show zN z ≤ zN z1 from hn); omega) ((hex 209 (show 209 < zN z by omega)).2.trans T2) (by intro x hx; simp only [List.mem_cons, List.not_mem_nil, or_false] at hx; (rcases hx with rfl <;> exact t32i _)) (show 1 = sm_na m_Model_count by decide +kernel) (law_lk _ (List.mem_of_getElem? (i := 47) rfl)) hl.1 (show 1 + 0 ≤ 8 by decide) dl_1238 bd.1 bd.2 (show 1 + t ≤ 1000 by omega) (show 1 + 6 * t ≤ 10000 by omega) rfl rfl (fun ad2 cl2 H2 locs2 S2 hex2 hn2 _ => ?_)
  refine lv_icmp_eq (tgt := 1246) hx hb dl_1241 (by decide) (fun _ => ?_) (fun q => absurd rfl q)
  have n1 : zN z ≤ zN z1 := hn
  refine K z1 I2 ad2 cl2 H2 locs2 ls f t (Nat.le_succ _) ⟨j2, usW_trans u u2, S2, ?_, ?_, ?_, ?_, hl⟩
  · rw [(hex2 1 (show 1 < zN z1 by omega)).1, (hex 1 (show 1 < zN z by omega)).1]; exact e1
  · rw [(hex2 209 (show 209 < zN z1 by omega)).1, (hex 209 (show 209 < zN z by omega)).1]; exact e2
  · exact ((hex 1 (show 1 < zN z by omega)).2).trans T1
  · exact ((hex 209 (show 209 < zN z by omega)).2).trans T2
end LWK
