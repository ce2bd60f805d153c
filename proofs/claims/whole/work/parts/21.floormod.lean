/-! Math.floorMod on the machine -/
abbrev y_fm : MethodName := ⟨"java/lang/Math", "floorMod", "(II)I"⟩
abbrev b_fm : ByteArray := prog_17_method_50_code
theorem d_fm_0 : decode b_fm 0 = .ok (.iload_n 0, 1) := by decide +kernel
theorem d_fm_1 : decode b_fm 1 = .ok (.iload_n 1, 1) := by decide +kernel
theorem d_fm_2 : decode b_fm 2 = .ok (.irem, 1) := by decide +kernel
theorem d_fm_3 : decode b_fm 3 = .ok (.istore_n 2, 1) := by decide +kernel
theorem d_fm_4 : decode b_fm 4 = .ok (.iload_n 0, 1) := by decide +kernel
theorem d_fm_5 : decode b_fm 5 = .ok (.iload_n 1, 1) := by decide +kernel
theorem d_fm_6 : decode b_fm 6 = .ok (.ixor, 1) := by decide +kernel
theorem d_fm_7 : decode b_fm 7 = .ok (.ifCond .ge 11, 3) := by decide +kernel
theorem d_fm_10 : decode b_fm 10 = .ok (.iload_n 2, 1) := by decide +kernel
theorem d_fm_11 : decode b_fm 11 = .ok (.ifCond .eq 7, 3) := by decide +kernel
theorem d_fm_14 : decode b_fm 14 = .ok (.iload_n 2, 1) := by decide +kernel
theorem d_fm_15 : decode b_fm 15 = .ok (.iload_n 1, 1) := by decide +kernel
theorem d_fm_16 : decode b_fm 16 = .ok (.iadd, 1) := by decide +kernel
theorem d_fm_17 : decode b_fm 17 = .ok (.ireturn, 1) := by decide +kernel
theorem d_fm_18 : decode b_fm 18 = .ok (.iload_n 2, 1) := by decide +kernel
theorem d_fm_19 : decode b_fm 19 = .ok (.ireturn, 1) := by decide +kernel
set_option maxRecDepth 100000 in
theorem tw_fm_c : Cond.code y_fm b_fm 3 (some .int) ∈ tbG := tb_in 697 rfl rfl
set_option maxRecDepth 100000 in
theorem tw_fm_s : Cond.static y_fm ∈ tbG := tb_in 696 (by decide +kernel) (by decide +kernel)
theorem fm_sign {x y : Int32} (hy : 0 < y.toInt) : 0 ≤ (x ^^^ y) ↔ 0 ≤ x.toInt := by
  have e1 : ∀ z : Int32, (0 ≤ z) ↔ z.toBitVec.msb = false := by
    intro z
    rw [← Int32.not_lt]
    have e2 : (z < 0) ↔ z.toBitVec.slt 0#32 = true := Iff.rfl
    rw [e2, BitVec.slt_zero_eq_msb]
    simp
  have e3 : (x ^^^ y).toBitVec = x.toBitVec ^^^ y.toBitVec := rfl
  have ey : y.toBitVec.msb = false := by
    rw [← e1, Int32.le_iff_toInt_le]
    have : (0 : Int32).toInt = 0 := by decide
    omega
  have ex : (0 ≤ x.toInt) ↔ 0 ≤ x := by
    rw [Int32.le_iff_toInt_le]
    have : (0 : Int32).toInt = 0 := by decide
    omega
  rw [e1, e3, BitVec.msb_xor, ey, ex, e1]
  simp
theorem fm_val {x y : Int} (h0 : 0 < y) : (0 ≤ x → x.tmod y = x % y) ∧ (x < 0 → x.tmod y = 0 → x % y = 0) ∧ (x < 0 → ¬ x.tmod y = 0 → x.tmod y + y = x % y) := by
  have h1 := Int.tmod_add_tdiv_mul x y
  have h2 := Int.emod_add_mul_ediv x y
  have h3 := tm_bd (x := x) h0
  have h4 := Int.emod_nonneg x (show y ≠ 0 by omega)
  have h5 := Int.emod_lt_of_pos x h0
  have key : ∀ (a b q1 q2 : Int), a + q1 * y = b + y * q2 → -y < a - b → a - b < y → a = b := by
    intro a b q1 q2 e l1 l2
    have e2 : a - b = y * (q2 - q1) := by rw [Int.mul_sub, Int.mul_comm y q1]; omega
    rcases Int.lt_trichotomy (q2 - q1) 0 with z | z | z
    · have : y * (q2 - q1) ≤ y * (-1) := Int.mul_le_mul_of_nonneg_left (by omega) (by omega)
      omega
    · rw [z] at e2; omega
    · have : y * 1 ≤ y * (q2 - q1) := Int.mul_le_mul_of_nonneg_left (by omega) (by omega)
      omega
  refine ⟨fun hx => ?_, fun hx hz => ?_, fun hx hz => ?_⟩
  · have := h3.2.2.1 hx
    exact key _ _ _ _ (h1.trans h2.symm) (by omega) (by omega)
  · have : x.tmod y = x % y := key _ _ _ _ (h1.trans h2.symm) (by omega) (by omega)
    omega
  · have h6 := h3.2.2.2 (by omega)
    have h7 : x.tmod y + y + (x.tdiv y - 1) * y = x % y + y * (x / y) := by
      rw [Int.sub_mul]; omega
    exact key _ _ _ _ h7 (by omega) (by omega)
theorem met_F {l : Launch} {y : MethodName} {ws ws' : List Cond} {rm : Room} {Pc : Array Value → State → Prop} {Qc : Array Value → State → Outcome → State → Prop} {mc ms : Nat} {free : Addr → Prop} {cc : ByteArray} {maxL : Nat} {ret : Option FieldType}
    (hy : plainFor y = true) (hw : ws = Cond.code y cc maxL ret :: ws')
    (body : ∀ p e s m args below meth c s₁, BodyLoose p l y (headSpec ws rm) cc maxL ret e s m args below meth c s₁ → c.maxLocals = maxL → Pc args s →
      W p l e (headSpec ws rm).room s m args below meth c s.heap [] 0 0 (MQ below Qc args s mc ms free) (entryFrame m args maxL)) : Met l y ws rm Pc Qc mc ms free := by
  refine MetFree.of_bodySF (code := cc) (maxLocals := maxL) (ret := ret) hy ?_ ?_
  · intro args s m h hn
    obtain ⟨meth, c, h1, h2, h3, h4, h5, h6, -, -⟩ := Cond.code_spec hn (atoms_spec (ws := ws) h _ (by rw [hw]; exact List.mem_cons_self))
    exact ⟨meth, c, h1, h2, h3, h4, h5, h6⟩
  · intro p e s m args below meth c s₁ B hml hP _
    obtain ⟨t, a1, o, b1, b2, b3⟩ := body p e s m args below meth c s₁ B hml hP s₁ (by rw [B.state]; rfl) (Stand.of_body B)
    exact ⟨t, o, a1, b1, b2, ⟨b3.1, b3.2⟩⟩
set_option maxHeartbeats 4000000 in
set_option maxRecDepth 100000 in
theorem c_fm (l : Launch) (x y : Int) (hx9 : cm_i x) (hy9 : cm_i y) (h0 : 0 < y) : Met l y_fm [Cond.code y_fm b_fm 3 (some .int)] ({ frames := 0, cells := 0, slots := 0, locals := 0 }) (va_Pc [.int (Int32.ofInt x), .int (Int32.ofInt y)] (fun _ => True)) (vp_Si (fun r => r = Int32.ofInt (x % y))) 0 0 (fun _ => False) := by
  refine met_F (cc := b_fm) (maxL := 3) (ret := some .int) (by decide +kernel) rfl ?_
  intro p e s m args below meth c s₁ B hml hv
  obtain ⟨rfl, -⟩ := hv
  have hx := B.exec
  have hb := B.bytes
  have hr := B.returns
  have hlocks := B.notSynchronized
  have hl := lv_entry ([.int (Int32.ofInt x), .int (Int32.ofInt y)]) (n := 3) (Nat.le_of_ble_eq_true rfl)
  rw [lg_entry_eq]
  generalize (lg_sl ([.int (Int32.ofInt x), .int (Int32.ofInt y)]) ++ List.replicate (3 - (lg_sl ([.int (Int32.ofInt x), .int (Int32.ofInt y)])).length) Slot.unset).toArray = ls at hl ⊢
  have hl : lv_has ls 3 [(0, .int (Int32.ofInt x)), (1, .int (Int32.ofInt y))] := hl
  have hyt : 0 < (Int32.ofInt y).toInt := by rw [i3_to hy9]; exact h0
  have hv := fm_val (x := x) h0
  refine lv_iload_n hx hb d_fm_0 rfl (lv_at hl 0 rfl) ?_
  refine lv_iload_n hx hb d_fm_1 rfl (lv_at hl 1 rfl) ?_
  refine lv_irem hx hb d_fm_2 (fun q => by rw [← i3_z, i3_eq hy9 i3_0] at q; omega) ?_
  rw [i3_rem hx9 hy9 h0]
  refine lv_istore_n (lv' := [(2, .int (Int32.ofInt (x.tmod y))), (0, .int (Int32.ofInt x)), (1, .int (Int32.ofInt y))]) hx hb d_fm_3 rfl hl (by decide) rfl (fun ls hl => ?_)
  refine lv_iload_n hx hb d_fm_4 rfl (lv_at hl 1 rfl) ?_
  refine lv_iload_n hx hb d_fm_5 rfl (lv_at hl 2 rfl) ?_
  refine lv_ixor hx hb d_fm_6 ?_
  refine lv_if_ge (tgt := 18) hx hb d_fm_7 (by decide) (fun hc => ?_) (fun hc => ?_)
  · have hx0 : 0 ≤ x := by
      have := (fm_sign hyt).mp hc
      rw [i3_to hx9] at this
      exact this
    refine lv_iload_n hx hb d_fm_18 rfl (lv_at hl 0 rfl) ?_
    exact W.iret hx hb hr (fun t ht _ => ⟨_, rfl, by rw [hv.1 hx0], ht⟩) (fun q hq => by cases hq) d_fm_19
  · have hx0 : x < 0 := by
      rcases Int.lt_or_le x 0 with q | q
      · exact q
      · exact absurd ((fm_sign hyt).mpr (by rw [i3_to hx9]; exact q)) hc
    refine lv_iload_n hx hb d_fm_10 rfl (lv_at hl 0 rfl) ?_
    refine lv_if_eq (tgt := 18) hx hb d_fm_11 (by decide) (fun hz => ?_) (fun hz => ?_)
    · have hz2 : x.tmod y = 0 := by rw [← i3_z, i3_eq (i3_rem_ok hy9 h0) i3_0] at hz; exact hz
      refine lv_iload_n hx hb d_fm_18 rfl (lv_at hl 0 rfl) ?_
      exact W.iret hx hb hr (fun t ht _ => ⟨_, rfl, by rw [hv.2.1 hx0 hz2, hz2], ht⟩) (fun q hq => by cases hq) d_fm_19
    · have hz2 : ¬ x.tmod y = 0 := fun q => hz (by rw [q]; rfl)
      refine lv_iload_n hx hb d_fm_14 rfl (lv_at hl 0 rfl) ?_
      refine lv_iload_n hx hb d_fm_15 rfl (lv_at hl 2 rfl) ?_
      refine lv_iadd hx hb d_fm_16 ?_
      exact W.iret hx hb hr (fun t ht _ => ⟨_, rfl, by rw [← Int32.ofInt_add, hv.2.2 hx0 hz2], ht⟩) (fun q hq => by cases hq) d_fm_17
section SFM
variable {p : Program} {l : Launch} {e : Env} {R : Room} {s : State} {m : MethodId} {args : Array Value} {below : List Frame} {meth : Method} {c : Code} {k : Nat} {D : va_G} {A : Nat → Prop} {ad0 : Nat → Nat} {h0 hF : cm_H} {Fin : State → Prop} {d : Nat}
variable {pc nx : Nat} {ls : cm_L} {st t : List cm_V} {h : cm_H}
theorem so_floorMod {x y : Int} (X : sm_X p R s m args meth c k D A h0 hF d) (hg : cm_ge h hF) (ho : ok_I k pc .drem nx = true) (hsum : cm_sum st ≤ 8) (hy0 : 0 < y) (K : sm_J p l e R s m args below meth c k D A ad0 h0 Fin nx ls (.inl (x % y) :: st) h) : sm_J p l e R s m args below meth c k D A ad0 h0 Fin pc ls (.inl y :: .inl x :: st) h := by
  obtain ⟨raw, len, hd, rfl, hR⟩ := ok_I_inv ho
  obtain ⟨hx, hb, hml, hown, hts, -, -, -, hK, -, -, -, -, -, -, hRc, hRs, hRf, hRl⟩ := X
  intro ad cl H locs ls' S
  have V := List.forall_mem_cons.mp S.2.2.2.2.2.2.1
  have V2 := List.forall_mem_cons.mp V.2
  have hyr : y ≤ 2147483647 := V.1.2
  have hvr : cm_i (x % y) := by
    have h4 := Int.emod_nonneg x (show y ≠ 0 by omega)
    have h5 := Int.emod_lt_of_pos x hy0
    exact ⟨by omega, by omega⟩
  have G := K ad cl H locs ls' (sS_st S (List.forall_mem_cons.mpr ⟨hvr, V2.2⟩))
  have hsz := S.2.2.2.2.2.1.1.1
  have S8 := S.2.2.2.2.2.2.2.1
  have c1 := S8.1
  have c2 := S8.2
  have g1 := hg.1
  have g2 := hg.2
  dsimp only [ok_R] at hR
  split at hR
  · simp only [Bool.and_eq_true] at hR
    obtain ⟨⟨r1, r2⟩, r3⟩ := hR
    have hl := Nat.eq_of_beq_eq_true r3
    subst hl
    obtain ⟨q, hq, hq2⟩ := List.any_eq_true.mp r1
    obtain ⟨k1, k2⟩ := key_inv hq2 r2
    have hw := hts _ (lk_fm hq)
    rw [k1, k2] at hw
    have hgood : GoodIn tbG [Cond.code y_fm b_fm 3 (some .int)] := fun w hw => by
      have e9 : w = Cond.code y_fm b_fm 3 (some .int) := by simpa using hw
      subst e9
      exact ⟨tw_fm_c, good_of_word (List.mem_filter.mp tw_fm_c).2⟩
    have hfix : CallFix p m c (sm_b k) (cm_maxL k) s args tbG (sm_cn (sm_ow k)) := ⟨hx, hb, hml, hown, hts⟩
    have hrun := va_runS (p := p) (l := l) (e := e) (R := R) (below := below) (meth := meth) (H := H) (locs := locs) (cells := ch_c h - ch_c h0) (slots := ch_s h - ch_s h0) (As := [.int (Int32.ofInt x), .int (Int32.ofInt y)]) (rest := st.map (en_V ad)) (n := 2) (bytes := b_fm) (maxL := 3) (ret := some .int) (g := F0 m pc ls' ((Sum.inl y :: Sum.inl x :: st).map (en_V ad))) hfix (c_fm l x y V2.1 V.1 hy0) ⟨callB_of 2 hts hgood rfl rfl rfl (hts _ tw_mi) hw ⟨by decide, by decide, by decide +kernel⟩ ⟨by rw [hRf]; show 0 + 1 ≤ _; omega, by rw [hRl]; show 8 + (3 + 11) + 0 ≤ _; omega⟩, hts _ tw_fm_s⟩ ⟨fun _ _ _ _ q => q, fun U _ _ => ⟨rfl, trivial⟩⟩ rfl rfl hsz rfl (by show 2 * 0 + _ ≤ 8; rw [sum_en]; omega) hd (by rw [hRc, hRs]; omega)
    refine sm_run (P := fun v t => v = some (.int (Int32.ofInt (x % y))) ∧ t.heap = H) (A1 := fun _ => False) hrun (fun st₀ v t9 hh hq => ?_) S.2.2.1 (fun q _ z => z.elim) (fun q z => z.elim) (fun v t9 H1 locs1 ht hvm hP hS1 => ?_)
    · obtain ⟨r9, e1, e2, e3⟩ := hq
      cases e1
      subst e2
      refine ⟨⟨rfl, by rw [e3, hh]⟩, ⟨by rw [e3]; exact Nat.le_refl _, fun q _ _ => by rw [e3]⟩⟩
    · obtain ⟨rfl, e2⟩ := hP
      have e3 : H1 = H := by rw [← ht, e2]
      subst e3
      exact K ad cl H1 locs1 ls' (by
        obtain ⟨S1, S2, S3, S4, S5, S6, S7, S8⟩ := S
        exact ⟨S1, S2, hS1, S4, S5, S6, List.forall_mem_cons.mpr ⟨hvr, V2.2⟩, S8⟩)
  · cases hR
end SFM
