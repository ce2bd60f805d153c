/-! THE LAW: making, its loads, the call of its helper -/
section LWN
variable {p : Program} {l : Launch} {e : Env} {s : State} {m : MethodId} {below : List Frame} {meth : Method} {c : Code} {Q : State → Prop} {D : va_G} {ex : va_W} {ad : Nat → Nat} {cl : Nat → ClassId} {h : cm_H} {H : Heap} {locs : List Loc} {cells slots : Nat} {ls : Array Slot} {rest : List Value} {args : Array Value} {R : Room}
theorem lw_new {kd idx pc : Nat} (hx : p.tables.exec = Jvm.exec) (hb : c.code = code) (hown : s.vm.findClass R_law = some m.cls) (hts : ∀ w ∈ tbG, w.before args s = true) (hK : va_K D vwCl [] s) (hkd : kd < 13) (hlk : Cond.classLink R_law idx (sm_cn kd) ∈ tbG) (S : lwS (lwA s) s D [] ad cl h H locs) (hc : cells + 1 ≤ R.cells) (hs : slots + sm_fn kd ≤ R.slots) (hd : decode code pc = .ok (.new idx, 3))
    (K : ∀ (q : Nat) (H1 : Heap), lwS (lwA s) s D [] (va_up ad (ch_n h) q) (va_up cl (ch_n h) 0) (ch_new h kd 0 (sm_fn kd)) H1 locs → W p l e R s m args below meth c H1 locs (cells + 1) (slots + sm_fn kd) Q (F0 m (pc + 3) ls (.ref q :: rest))) : W p l e R s m args below meth c H locs cells slots Q (F0 m pc ls rest) := by
  obtain ⟨S1, S2, S3, S4, S5, S6, S7⟩ := S
  refine va_new (ci := kd) (fs := en_F ad (ch_new h kd 0 (sm_fn kd)) kd (ch_n h)) (N := sm_fn kd) hx hb hts (tk_f hkd) (sm_tf kd) (tf_ok hkd) hown (hts _ hlk) (hts _ (tk_n hkd)) (hts _ (tk_x (by omega))) hK S1 S2 S3 (fun q z => z) (vw_at hkd) (fun j hj => ?_) hc hs hd (fun q H1 hP1 hD1 hS1 => ?_)
  · unfold vp_V
    rw [List.getD_eq_getElem?_getD, en_F_get hj]
    show _ = en_f _ _ _ _ _
    unfold en_f
    have b1 := (tf_one hkd hj).1
    rw [ch_R_new, ch_I_new, if_pos rfl, if_pos rfl]
    cases hf : sm_fk kd j with
    | some z =>
      rw [hf] at b1
      have b1 : isRf (sm_tf kd j) = true := b1
      generalize sm_tf kd j = ty at b1
      cases ty <;> first | rfl | cases b1
    | none =>
      rw [hf] at b1
      cases hz : sm_fz kd j with
      | true => rw [b1.1 hz]; rfl
      | false => rw [b1.2 hz]; rfl
  · have hE : en_C (va_up ad (ch_n h) q) (va_up cl (ch_n h) 0) (ch_new h kd 0 (sm_fn kd)) (ch_n h) = .inr (kd, en_F ad (ch_new h kd 0 (sm_fn kd)) kd (ch_n h)) := by
      rw [en_C_obj (c := kd) (by rw [ch_T_new, if_pos rfl]) hkd]
      unfold en_F en_f
      rw [ch_R_new, ch_I_new, if_pos rfl, if_pos rfl]
      rfl
    rw [sm_new S4 hE] at hP1 hD1
    exact K q H1 ⟨hP1, hD1, hS1, sm_ok_new S4 (Or.inl hkd) ⟨by decide, by decide⟩, sm_ar_new S5 (fun z => by omega), fun k x hx => by simp at hx, fun x hx => by cases hx⟩
theorem lw_arg {b L i pc j : Nat} {xs : Nat → Int32} (hx : p.tables.exec = Jvm.exec) (hb : c.code = code) (hX : va_X b L xs s s.heap) (hbl : b < s.heap.size) (hS : va_S (lwA s) s.heap H locs) (h0 : ls[0]? = some (.val (.ref b))) (h4 : ls[4]? = some (.val (.int (nI i)))) (hj : i + j < L) (hL : L ≤ 3584) {n : Int} (hn : Int32.ofInt n = nI j) (d0 : decode code pc = .ok (.aload_n 0, 1)) (d1 : decode code (pc + 1) = .ok (.iload 4, 2)) (d3 : decode code (pc + 3) = .ok (.iconst n, 1)) (d4 : decode code (pc + 4) = .ok (.iadd, 1)) (d5 : decode code (pc + 5) = .ok (.iaload, 1))
    (K : W p l e R s m args below meth c H locs cells slots Q (F0 m (pc + 6) ls (.int (Int32.ofInt (xs (i + j)).toInt) :: rest))) : W p l e R s m args below meth c H locs cells slots Q (F0 m pc ls rest) := by
  have h_in : vp_in (nI (i + j)) L := vp_in_nI hj (by omega)
  refine lv_aload_n hx hb d0 rfl h0 ?_
  refine lv_iload hx hb d1 h4 ?_
  refine lv_iconst hx hb d3 hn ?_
  refine lv_iadd hx hb d4 ?_
  rw [nI_add]
  refine va_sld hx hb hX hbl (Nat.not_le.mpr hbl) hS h_in d5 ?_
  rw [nI_clamp (by omega), ← Int32.ofInt_toInt (xs (i + j))]
  exact K
theorem lw_argB {b L i pc j : Nat} {xs : Nat → Int32} (hx : p.tables.exec = Jvm.exec) (hb : c.code = code) (hX : va_X b L xs s s.heap) (hbl : b < s.heap.size) (hS : va_S (lwA s) s.heap H locs) (h0 : ls[0]? = some (.val (.ref b))) (h4 : ls[4]? = some (.val (.int (nI i)))) (hj : i + j < L) (hL : L ≤ 3584) {n : Int} (hn : (Int8.ofInt n).toInt32 = nI j) (d0 : decode code pc = .ok (.aload_n 0, 1)) (d1 : decode code (pc + 1) = .ok (.iload 4, 2)) (d3 : decode code (pc + 3) = .ok (.bipush n, 2)) (d4 : decode code (pc + 5) = .ok (.iadd, 1)) (d5 : decode code (pc + 6) = .ok (.iaload, 1))
    (K : W p l e R s m args below meth c H locs cells slots Q (F0 m (pc + 7) ls (.int (Int32.ofInt (xs (i + j)).toInt) :: rest))) : W p l e R s m args below meth c H locs cells slots Q (F0 m pc ls rest) := by
  have h_in : vp_in (nI (i + j)) L := vp_in_nI hj (by omega)
  refine lv_aload_n hx hb d0 rfl h0 ?_
  refine lv_iload hx hb d1 h4 ?_
  refine lv_bipush hx hb d3 hn ?_
  refine lv_iadd hx hb d4 ?_
  rw [nI_add]
  refine va_sld hx hb hX hbl (Nat.not_le.mpr hbl) hS h_in d5 ?_
  rw [nI_clamp (by omega), ← Int32.ofInt_toInt (xs (i + j))]
  exact K
/-- the helper is called -/
theorem lw_callT {x1 x2 x3 : Int} {r : Int32} {qo pc mc ms : Nat} {cA : ClassId} {f f' : Nat → Int64} (hx : p.tables.exec = Jvm.exec) (hb : c.code = code) (hml : c.maxLocals = 7) (hown : s.vm.findClass R_law = some m.cls) (hts : ∀ w ∈ tbG, w.before args s = true) (hG : lwG s D) (hKl : va_K D vwCl [(cA, .long)] s) (hT : txP (lwA s) s s.heap) (S : lwS (lwA s) s D [lt_e qo cA f] ad cl h H locs)
    (hM : Met l yL_term wsT (lt_rm mc ms) (lt_Pc D ad cl h x1 x2 x3 qo cA f H.size) (lt_Qc r D ad h qo cA f' (va_A (lt_ws ad cl h qo cA f) H.size)) mc ms (va_A (lt_ws ad cl h qo cA f) H.size)) (hR : 72 ≤ R.frames ∧ 4700 ≤ R.locals) (hsz : ls.size = 7) (hd : decode code pc = .ok (.invokestatic 59, 3)) (hf : cells + mc ≤ R.cells ∧ slots + ms ≤ R.slots)
    (K : ∀ (ad' : Nat → Nat) (cl' : Nat → ClassId) (H1 : Heap) (locs1 : List Loc), lwS (lwA s) s D [lt_e qo cA f'] ad' cl' h H1 locs1 → (∀ a, a < ch_n h → ad' a = ad a) → W p l e R s m args below meth c H1 locs1 (cells + mc) (slots + ms) Q (F0 m (pc + 3) ls [.int r])) : W p l e R s m args below meth c H locs cells slots Q (F0 m pc ls [.ref qo, .int (Int32.ofInt x3), .int (Int32.ofInt x2), .int (Int32.ofInt x1), .ref (ad 1)]) := by
  obtain ⟨hK, hnest, hG2, hG5, hI⟩ := hG
  obtain ⟨hP, hD⟩ := lw_app S
  have hAin : ∀ q, va_A (lt_ws ad cl h qo cA f) H.size q → lwA s q := fun q z => by
    rcases z with ⟨i, ee, z⟩ | z
    · exact hD.2 i _ z
    · exact Nat.le_trans S.2.2.1.1 z
  have hps : PreS s H (lt_Pc D ad cl h x1 x2 x3 qo cA f H.size) [.ref (ad 1), .int (Int32.ofInt x1), .int (Int32.ofInt x2), .int (Int32.ofInt x3), .ref qo] := ⟨lt_blind, fun U hU hW => ⟨rfl, by rw [hU], by rw [hU]; exact hP, hD.weaken (fun _ _ _ _ => trivial), va_K.moved hW.alike hKl, sm_ar_moved hW.alike S.2.2.2.2.1, nest_warm hW hnest, va_AO.moved hW.alike hG2, va_AO.moved hW.alike hG5, aoa_moved hW.alike hI, by
    rw [hU]
    exact txP_warm hW (txP_narrow (txP_kept hT S.2.2.1.2.1) hAin)⟩⟩
  have run := vx_runSW (R := R) (meth := meth) (below := below) (e := e) (locs := locs) (cells := cells) (slots := slots) (rest := []) (g := F0 m pc ls [.ref qo, .int (Int32.ofInt x3), .int (Int32.ofInt x2), .int (Int32.ofInt x1), .ref (ad 1)]) (n := 5) (nL := 7) (own := R_law) (Ts := tbG) (cc := code) ⟨hx, hb, hml, hown, hts⟩ hM (vx_cwSW (hh := hh_T) (bytes := cL_term) (maxL := 6) (ret := some .int) 5 hts wsT_good rfl rfl rfl (by decide +kernel) ⟨by show 71 + 1 ≤ R.frames; omega, by show 8 + (6 + 11) + 4600 ≤ R.locals; omega⟩) hps rfl rfl hsz rfl (show 2 * 0 + 0 ≤ 8 by decide) hd hf
  refine sm_run (A := lwA s) (P := fun v t => v = some (.int r) ∧ lt_Qr D ad h qo cA f' (va_A (lt_ws ad cl h qo cA f) H.size) t) (A1 := va_A (lt_ws ad cl h qo cA f) H.size) run (fun st₀ v t9 e0 hq => ?_) S.2.2.1 (fun q _ z => hAin q z) hAin (fun v t9 H1 locs1 ht hvm hq hS1 => ?_)
  · obtain ⟨⟨ev, hq1⟩, hq2⟩ := hq
    cases ev
    exact ⟨⟨rfl, hq1⟩, hq2⟩
  · obtain ⟨rfl, ad', cl', ok2, hP1, hD1, har, hex⟩ := hq
    rw [ht] at hP1
    exact K ad' cl' H1 locs1 (lw_split hP1 (hD1.weaken (fun _ q _ z => hAin q.1 z)) hS1 ok2 (sm_ar_moved hvm.symm har)) hex
end LWN
