/-! how high the stack stands in the method that throws -/
def t_dl : Instr → Option Int
  | .iload _ => some 1
  | .iconst _ => some 1
  | .aload _ => some 1
  | .istore _ => some (-1)
  | .ifCond _ _ => some (-1)
  | .if_icmp _ _ => some (-2)
  | .goto _ => some 0
  | .iinc _ _ => some 0
  | .iadd => some (-1)
  | .isub => some (-1)
  | .iaload => some (-1)
  | .aaload => some (-1)
  | .getstatic _ => some 0
  | .getfield _ => some 0
  | .invokeinterface _ n => some (1 - (n : Int))
  | .ireturn => some 0
  | .athrow => some 0
  | _ => none
def t_tg (ci : Instr) (nx : Nat) : List Nat := match ci with
  | .goto t => [t.toNat]
  | .ifCond _ t => [t.toNat, nx]
  | .if_icmp _ t => [t.toNat, nx]
  | .ireturn => []
  | .athrow => []
  | _ => [nx]
def t_dp (pc : Nat) : Int := (([(1, 1), (4, 1), (8, 1), (12, 1), (16, 1), (17, 2), (31, 1), (35, 1), (39, 1), (43, 1), (46, 1), (49, 1), (51, 2), (52, 1), (55, 1), (58, 1), (61, 1), (63, 2), (64, 3), (65, 2), (66, 1), (69, 1), (73, 1), (75, 2), (79, 1), (82, 1), (83, 2), (84, 1), (86, 2), (88, 3), (89, 2), (90, 1), (98, 1), (99, 2), (103, 1), (107, 1), (110, 1), (111, 2), (112, 1), (114, 2), (116, 3), (117, 2), (118, 1), (122, 1), (125, 1), (127, 2), (129, 3), (130, 4), (131, 5), (132, 4), (135, 1)] : List (Nat × Int)).lookup pc).getD 0
theorem cmp_inv {c : ClassFile.Cond} {x y : Int} {P N : Prop} (h : cm_cmp c x y P N) : P ∨ N := by
  cases c
  · by_cases q : x = y
    · exact Or.inl (h.1 q)
    · exact Or.inr (h.2 q)
  · by_cases q : x = y
    · exact Or.inr (h.2 q)
    · exact Or.inl (h.1 q)
  · by_cases q : x < y
    · exact Or.inl (h.1 q)
    · exact Or.inr (h.2 (Int.not_lt.mp q))
  · by_cases q : y ≤ x
    · exact Or.inl (h.1 q)
    · exact Or.inr (h.2 (Int.not_le.mp q))
  · by_cases q : y < x
    · exact Or.inl (h.1 q)
    · exact Or.inr (h.2 (Int.not_lt.mp q))
  · by_cases q : x ≤ y
    · exact Or.inl (h.1 q)
    · exact Or.inr (h.2 (Int.not_le.mp q))
theorem ins_len {d : Nat} {ci : Instr} {nx : Nat} {ls : cm_L} {st : List cm_V} {h : cm_H} {p9 : Nat} {s9 : List cm_V} {δ : Int} (hc : t_dl ci = some δ) (H : cm_ins (cm_call d) ci nx ls st h (fun p _ s _ => p = p9 ∧ s = s9) (fun _ _ => False)) : (s9.length : Int) ≤ st.length + δ ∧ p9 ∈ t_tg ci nx := by
  unfold t_dl at hc
  split at hc
  · cases hc
    obtain ⟨v, -, e1, e2⟩ := gi_inv H
    rw [← e1, ← e2]
    exact ⟨by rw [List.length_cons]; omega, List.mem_cons_self⟩
  · cases hc
    obtain ⟨-, e1, e2⟩ := H
    rw [← e1, ← e2]
    exact ⟨by rw [List.length_cons]; omega, List.mem_cons_self⟩
  · cases hc
    obtain ⟨c, v, -, e1, e2⟩ := gr_inv H
    rw [← e1, ← e2]
    exact ⟨by rw [List.length_cons]; omega, List.mem_cons_self⟩
  · cases hc
    obtain ⟨v, t, rfl, e1, e2⟩ := p1_inv H
    rw [← e1, ← e2]
    exact ⟨by rw [List.length_cons]; omega, List.mem_cons_self⟩
  · cases hc
    obtain ⟨v, t, rfl, e⟩ := p1_inv H
    rcases cmp_inv e with ⟨e1, e2⟩ | ⟨e1, e2⟩
    · rw [← e1, ← e2]
      exact ⟨by rw [List.length_cons]; omega, List.mem_cons_self⟩
    · rw [← e1, ← e2]
      exact ⟨by rw [List.length_cons]; omega, List.mem_cons_of_mem _ List.mem_cons_self⟩
  · cases hc
    obtain ⟨v, w, t, rfl, e⟩ := p2_inv H
    rcases cmp_inv e with ⟨e1, e2⟩ | ⟨e1, e2⟩
    · rw [← e1, ← e2]
      exact ⟨by rw [List.length_cons, List.length_cons]; omega, List.mem_cons_self⟩
    · rw [← e1, ← e2]
      exact ⟨by rw [List.length_cons, List.length_cons]; omega, List.mem_cons_of_mem _ List.mem_cons_self⟩
  · cases hc
    obtain ⟨e1, e2⟩ := H
    rw [← e1, ← e2]
    exact ⟨by omega, List.mem_cons_self⟩
  · cases hc
    obtain ⟨v, -, -, e1, e2⟩ := gi_inv H
    rw [← e1, ← e2]
    exact ⟨by omega, List.mem_cons_self⟩
  · cases hc
    obtain ⟨x, y, t, rfl, -, e1, e2⟩ := p2_inv H
    rw [← e1, ← e2]
    exact ⟨by simp only [List.length_cons]; omega, List.mem_cons_self⟩
  · cases hc
    obtain ⟨x, y, t, rfl, -, e1, e2⟩ := p2_inv H
    rw [← e1, ← e2]
    exact ⟨by simp only [List.length_cons]; omega, List.mem_cons_self⟩
  · cases hc
    obtain ⟨i, t, rfl, h2⟩ := p1_inv H
    obtain ⟨c9, a, t, rfl, h2⟩ := pr_inv h2
    obtain ⟨-, -, -, -, e1, e2⟩ := ck_inv h2
    rw [← e1, ← e2]
    exact ⟨by simp only [List.length_cons]; omega, List.mem_cons_self⟩
  · cases hc
    obtain ⟨i, t, rfl, h2⟩ := p1_inv H
    obtain ⟨c9, a, t, rfl, h2⟩ := pr_inv h2
    obtain ⟨-, -, -, -, e1, e2⟩ := ck_inv h2
    rw [← e1, ← e2]
    exact ⟨by simp only [List.length_cons]; omega, List.mem_cons_self⟩
  · cases hc
    obtain ⟨c9, a, t, rfl, h2⟩ := pr_inv H
    obtain ⟨-, -, e1, e2⟩ := ck_inv h2
    rw [← e1, ← e2]
    exact ⟨by simp only [List.length_cons]; omega, List.mem_cons_self⟩
  · cases hc
    obtain ⟨c9, a, t, rfl, h2⟩ := pr_inv H
    obtain ⟨-, -, e1, e2⟩ := ck_inv h2
    rw [← e1, ← e2]
    exact ⟨by simp only [List.length_cons]; omega, List.mem_cons_self⟩
  · cases hc
    obtain ⟨as, t, rfl, hl, h2⟩ := pop_inv _ _ _ H
    obtain ⟨-, h4⟩ := ck_inv h2
    obtain ⟨r2, h5, ⟨e1, e2⟩, -, -⟩ := cm_call_nice d _ _ _ _ h4
    rw [← e1, ← e2]
    refine ⟨?_, List.mem_cons_self⟩
    rw [List.length_append, List.length_reverse, hl]
    cases r2
    · show (t.length : Int) ≤ _; omega
    · show ((t.length + 1 : Nat) : Int) ≤ _; omega
  · obtain ⟨v, t, rfl, h2⟩ := p1_inv H
    exact (ck_inv h2).2.elim
  · exact H.elim
  · cases hc
theorem t_dp_ok {d pc nx : Nat} {ci : Instr} {ls : cm_L} {st : List cm_V} {h : cm_H} {p9 : Nat} {s9 : List cm_V} (hc : cm_code m_Works_term pc = some (ci, nx)) (hs : (st.length : Int) ≤ t_dp pc) (H : cm_ins (cm_call d) ci nx ls st h (fun p _ s _ => p = p9 ∧ s = s9) (fun _ _ => False)) : (s9.length : Int) ≤ t_dp p9 := by
  have q : pc < 161 := by
    refine Nat.lt_of_not_le fun q => ?_
    obtain ⟨j, rfl⟩ : ∃ j, pc = j + 161 := ⟨pc - 161, by omega⟩
    have : cm_code m_Works_term (j + 161) = none := rfl
    rw [this] at hc
    cases hc
  have key : ∀ i : Fin 161, (match cm_code m_Works_term i.val with | some (ci, nx) => (match t_dl ci with | some δ => (t_tg ci nx).all (fun p => decide (t_dp i.val + δ ≤ t_dp p)) | none => false) | none => true) = true := by decide +kernel
  have k := key ⟨pc, q⟩
  dsimp only at k
  rw [hc] at k
  dsimp only at k
  cases hd : t_dl ci with
  | none => rw [hd] at k; cases k
  | some δ =>
    rw [hd] at k
    obtain ⟨a, b⟩ := ins_len hd H
    have := of_decide_eq_true (List.all_eq_true.mp k p9 b)
    omega
/-! THE METHOD THAT THROWS, where it throws -/
def NSE : String := "java/util/NoSuchElementException"
def txN : List String := ["java/lang/RuntimeException", "java/lang/Exception"]
def txL : List Cond := tx_atS RX11 226 NSE 13 prog_23_method_4_code txN
def txB : List Cond := txL.filter (fun w => !goodWord w)
theorem txB_eq : txB = [.declares (Bundle.initS "java/lang/RuntimeException"), .declares (Bundle.initS "java/lang/Exception"), .declares (Bundle.initS Bundle.tN), .castable NSE NSE] := by decide +kernel
theorem txT : ∀ w ∈ txB, w.onTables = true := by decide +kernel
theorem txG : ∀ w ∈ txL.filter goodWord, w ∈ lw_tbl := by decide +kernel
theorem txG2 : ∀ w ∈ Cond.classLink RX11 222 NSE :: Cond.initialized NSE :: txL, vx_ot w = true := by decide +kernel
theorem txK : ∀ w ∈ [Cond.classLink RX11 222 NSE, Cond.initialized NSE], w ∈ lw_tbl ∧ goodWord w = true := by decide +kernel
/-- what a throw rests on -/
def txP (A : Nat → Prop) (U : State) (H : Heap) : Prop := (∀ w ∈ txB, va_Nw w U) ∧ vx_Zq Bundle.tN "UNASSIGNED_STACK" Bundle.steD A U H ∧ vx_Zq Bundle.tN "SUPPRESSED_SENTINEL" Bundle.listD A U H ∧ ∃ sa, vk_R RX11 224 "no such term" sa U
theorem txP_warm {A : Nat → Prop} {s U : State} {H : Heap} (hW : s.WarmedH U.vm) (h : txP A s H) : txP A U H := by
  obtain ⟨h1, h2, h3, sa, h4⟩ := h
  refine ⟨?_, vx_Zq.moved hW.alike h2, vx_Zq.moved hW.alike h3, sa, vk_R.warm hW h4⟩
  rw [txB_eq] at h1 ⊢
  intro w hw
  have := h1 w hw
  rcases List.mem_cons.mp hw with rfl | hw
  · exact va_Nw.warmD hW this
  rcases List.mem_cons.mp hw with rfl | hw
  · exact va_Nw.warmD hW this
  rcases List.mem_cons.mp hw with rfl | hw
  · exact va_Nw.warmD hW this
  rcases List.mem_cons.mp hw with rfl | hw
  · exact va_Nw.warmC hW this
  · cases hw
theorem txP_same {A : Nat → Prop} {u U : State} {H : Heap} (hv : u.vm = U.vm) (h : txP A u H) : txP A U H := by
  obtain ⟨h1, h2, h3, sa, h4⟩ := h
  have al : u.vm.Alike U.vm := by rw [hv]; exact Vm.Alike.refl U.vm
  exact ⟨fun w hw => va_Nw.same (txT w hw) hv (h1 w hw), vx_Zq.moved al h2, vx_Zq.moved al h3, sa, vk_R.same hv.symm h4⟩
theorem txP_kept {A : Nat → Prop} {U : State} {H H1 : Heap} (h : txP A U H) (hq : ∀ a : Nat, a < H.size → ¬ A a → H1[a]? = H[a]?) : txP A U H1 := ⟨h.1, h.2.1.kept hq, h.2.2.1.kept hq, h.2.2.2⟩
theorem txP_narrow {A B : Nat → Prop} {U : State} {H : Heap} (h : txP A U H) (hAB : ∀ q, B q → A q) : txP B U H := ⟨h.1, h.2.1.narrow hAB, h.2.2.1.narrow hAB, h.2.2.2⟩
def tx_h (h : cm_H) : cm_H := (h.1, h.2.1, h.2.2.1, h.2.2.2.1, h.2.2.2.2.1, h.2.2.2.2.2.1 + 1, h.2.2.2.2.2.2 + 6)
theorem thr_inj {g h : cm_H} (e : ch_thr g = ch_thr h) : g = h := by
  obtain ⟨a1, a2, a3, a4, a5, a6, a7⟩ := g
  obtain ⟨b1, b2, b3, b4, b5, b6, b7⟩ := h
  simp only [ch_thr, Prod.mk.injEq] at e
  obtain ⟨e1, e2, e3, e4, e5, e6, e7⟩ := e
  subst e1; subst e2; subst e3; subst e4; subst e5
  have e6 : a6 = b6 := by omega
  have e7 : a7 = b7 := by omega
  subst e6; subst e7
  rfl
theorem tx_at {pc nx : Nat} (h : cm_code m_Works_term pc = some (.athrow, nx)) : pc = 20 ∨ pc = 151 := by
  by_cases q : pc < 161
  · have key : ∀ i : Fin 161, (match cm_code m_Works_term i.val with | some (.athrow, _) => decide (i.val = 20 ∨ i.val = 151) | _ => true) = true := by decide +kernel
    have := key ⟨pc, q⟩
    dsimp only at this
    rw [h] at this
    exact of_decide_eq_true this
  · exfalso
    obtain ⟨j, rfl⟩ : ∃ j, pc = j + 161 := ⟨pc - 161, by omega⟩
    have : cm_code m_Works_term (j + 161) = none := rfl
    rw [this] at h
    cases h
def tx_Pc (D : va_G) (ad : Nat → Nat) (cl : Nat → ClassId) (h : cm_H) (as : List cm_V) (sz : Nat) : Array Value → State → Prop := fun a U => sm_Pc D ad cl h as sz a U ∧ txP (va_A (sm_ws ad cl h) sz) U U.heap
def tx_XC (D : va_G) (ad : Nat → Nat) (cl : Nat → ClassId) (h : cm_H) (sz : Nat) : String → State → State → Prop := fun E st t => E = NSE ∧ sm_Qr D ad h h none (va_A (sm_ws ad cl h) sz) none t ∧ va_F (va_A (sm_ws ad cl h) sz) st t
set_option maxHeartbeats 4000000 in
set_option maxRecDepth 100000 in
theorem sm_termX (l : Launch) (hl : l.stackTraces = false) {d : Nat} (hd5 : 6 ≤ d) {as : List cm_V} {h : cm_H} (q : cm_call (d + 1) m_Works_term as h (cm_qe cm_exc (ch_thr h))) (D : va_G) (ad : Nat → Nat) (cl : Nat → ClassId) (sz : Nat) (hok : sm_ok h) (hvas : ∀ v ∈ as, vok h v) : vx_Met l (sm_y m_Works_term) (sm_wd m_Works_term) (sm_rm (d + 1) h (tx_h h)) (tx_Pc D ad cl h as sz) (fun _ _ _ _ => False) (tx_XC D ad cl h sz) (ch_c (tx_h h) - ch_c h) (ch_s (tx_h h) - ch_s h) (va_A (sm_ws ad cl h) sz) := by
  have hk : m_Works_term < 245 := by decide
  obtain ⟨t1, t2, t3, t4, t5, t6, t7, t8⟩ := tk_m hk
  refine vx_ofW (cc := sm_b m_Works_term) (maxL := cm_maxL m_Works_term) (ret := sm_rt m_Works_term) t3 rfl ?_
  intro p e s m args below meth c s₁ B hml hex hv
  obtain ⟨⟨rfl, hsz, hP, hD0, hK, har, hnest, hG, hPc, hI⟩, hT⟩ := hv
  have hts := atoms_spec (ws := sm_wd m_Works_term) B.pre
  have hown : s.vm.findClass (sm_y m_Works_term).cls = some m.cls := findClass_of_methodNamed B.named
  have hname := (name_of_methodNamed B.named B.method).1
  subst hsz
  have hD := hD0.self (sz := s.heap.size)
  unfold cm_call at q
  obtain ⟨q1, q2, n, q3⟩ := ck_inv q
  simp only [Bool.and_eq_true] at q1
  obtain ⟨⟨c1, c2⟩, c3⟩ := q1
  have c1 := Nat.le_of_ble_eq_true c1
  have hl0 := lv_entry (as.map (en_V ad)) (n := cm_maxL m_Works_term) (by rw [ent_len]; exact c1)
  have X : sm_X p (sm_rm (d + 1) h (tx_h h)) s m (as.map (en_V ad)).toArray meth c m_Works_term D (va_A (sm_ws ad cl h) s.heap.size) h (tx_h h) d := by
    refine ⟨B.exec, B.bytes, hml, by rw [← t1]; exact hown, fun w hw => hts w (List.mem_cons_of_mem _ hw), B.returns, B.notSynchronized, fun z => by rw [hname]; exact t7.mp z, hK, hnest, hG, hPc, hI, fun q z => Or.inr z, hk, rfl, rfl, rfl, rfl⟩
  have KK := sm_NG (l := l) (Qx := cm_qe cm_exc (ch_thr h)) (e := e) (below := below) (ad0 := ad) (Fin := vx_MQ below (fun _ _ _ _ => False) (tx_XC D ad cl h s.heap.size) (as.map (en_V ad)).toArray s (ch_c (tx_h h) - ch_c h) (ch_s (tx_h h) - ch_s h) (va_A (sm_ws ad cl h) s.heap.size)) X (fun k2 as2 h2 r2 h3 z1 z2 z3 => sm_meth l d k2 as2 h2 r2 h3 z1 z2 z3) (fun r1 h1 z => by rw [z.2]; exact ⟨Nat.le_refl _, Nat.le_succ _⟩) (Iv := fun pc st => (st.length : Int) ≤ t_dp pc) (fun pc nx ci ls st h p9 s9 hc hs H => t_dp_ok hc hs H) (fun pc nx ci ls st h9 hri hcd hiv ho hci => ?_) n 0 _ _ _ (by decide) q3
  · have G := KK.2 ad cl s.heap [] _ ⟨hP, hD, va_S.rf, hok, har, sm_entry hl0 c2 hvas, fun _ z => (by cases z), cm_ge.rf h, Nat.le_refl _, fun a _ => ⟨rfl, rfl⟩⟩
    rw [Nat.sub_self, Nat.sub_self] at G
    rw [lg_entry_eq]
    exact G
  · obtain ⟨hx, hb, -, -, hts2, hr, hlocks, -⟩ := X
    intro ad9 cl9 H locs ls' S
    obtain ⟨S1, S2, S3, S4, S5, S6, S7, S8, S9, S10⟩ := S
    rcases hri with rfl | rfl | rfl | rfl | rfl
    · obtain ⟨v, t, rfl, h2⟩ := p1_inv hci
      exact absurd (ck_inv h2).2.1 (by intro z; cases z)
    · obtain ⟨v, t, rfl, h2⟩ := p1_inv hci
      exact absurd (ck_inv h2).2.2.1 (by intro z; cases z)
    · obtain ⟨c9, a, t, rfl, h2⟩ := pr_inv hci
      obtain ⟨-, ha, e1, -⟩ := ck_inv h2
      cases e1
      exact absurd ha (by decide)
    · exact absurd (ck_inv hci).2.1 (by intro z; cases z)
    · have e9 : h9 = h := thr_inj hci.2
      subst e9
      have hz : ls'.size = c.maxLocals := by rw [hml]; exact S6.1.1
      obtain ⟨hT1, hT2, hT3, sa, hT4⟩ := hT
      have ho2 : s.vm.findClass RX11 = some m.cls := by rw [← show (sm_y m_Works_term).cls = RX11 from rfl]; exact hown
      have hin : ∀ w, w ∈ lw_tbl → goodWord w = true → w.before (as.map (en_V ad)).toArray s = true := fun w a b => hts2 w (List.mem_filter.mpr ⟨a, b⟩)
      have hat : ∀ w ∈ tx_atS RX11 226 NSE 13 prog_23_method_4_code txN, w.before (as.map (en_V ad)).toArray s = true := vx_hat (L := txL) (B := txB) (fun w hw => hin w (txG w hw) (List.mem_filter.mp hw).2) (fun w hw => hw) (fun w hw => va_Nw.use (txT w hw) (hT1 w hw))
      have hk1 := txK _ (List.mem_cons_self)
      have hk2 := txK _ (List.mem_cons_of_mem _ List.mem_cons_self)
      have hx2 : ∀ t : State, s.vm.Alike t.vm → H.size ≤ t.heap.size → (∀ q : Nat, q < H.size → t.heap[q]? = H[q]?) → tx_XC D ad cl h9 s.heap.size NSE s t := fun t ht h1 h2 => by
        refine ⟨rfl, ⟨ad9, cl9, rfl, S4, fun x z => (by cases z), S1.kept fun k x hx => h2 x.1 ((S1 k x hx).lt), S2, sm_ar_moved ht S5, Nat.le_refl _, S10⟩, Nat.le_trans S3.1 h1, fun q a b => ?_⟩
        rw [h2 q (Nat.lt_of_lt_of_le a S3.1)]
        exact S3.2.1 q a b
      have cc : ch_c h9 - ch_c h9 + 1 ≤ ch_c (tx_h h9) - ch_c h9 := by show ch_c h9 - ch_c h9 + 1 ≤ ch_c h9 + 1 - ch_c h9; omega
      have ss : ch_s h9 - ch_s h9 + 6 ≤ ch_s (tx_h h9) - ch_s h9 := by show ch_s h9 - ch_s h9 + 6 ≤ ch_s h9 + 6 - ch_s h9; omega
      have hfr : txN.length + 3 < (sm_rm (d + 1) h9 (tx_h h9)).frames := by show 2 + 3 < d + 1; omega
      rcases tx_at hcd with rfl | rfl
      · refine tx_throw (ix := 13) (rx := prog_23_method_4_code) (text := "no such term") (names := txN) (ik := 222) (is := 224) (ic := 226) (cls := NSE) hx hb hl (by decide +kernel) (by decide +kernel) (by decide +kernel) (by decide +kernel) ho2 (by decide +kernel) (by decide +kernel) (hin _ hk1.1 hk1.2) (hin _ hk2.1 hk2.2) hT4 hat txG2 hT2 hT3 S3 hz (by decide +kernel) (by decide +kernel) (by decide +kernel) (by decide +kernel) (by decide +kernel) (fun x hx => (hex x hx).elim) hfr ?_ cc ss hlocks hx2 S3.2.2 cc ss
        have e0 : st = [] := List.eq_nil_of_length_eq_zero (by have : (st.length : Int) ≤ 0 := hiv; omega)
        rw [e0]
        show 0 + (13 * (2 + 1) + 43) ≤ 64 * (d + 1)
        omega
      · refine tx_throw (ix := 13) (rx := prog_23_method_4_code) (text := "no such term") (names := txN) (ik := 222) (is := 224) (ic := 226) (cls := NSE) hx hb hl (by decide +kernel) (by decide +kernel) (by decide +kernel) (by decide +kernel) ho2 (by decide +kernel) (by decide +kernel) (hin _ hk1.1 hk1.2) (hin _ hk2.1 hk2.2) hT4 hat txG2 hT2 hT3 S3 hz (by decide +kernel) (by decide +kernel) (by decide +kernel) (by decide +kernel) (by decide +kernel) (fun x hx => (hex x hx).elim) hfr ?_ cc ss hlocks hx2 S3.2.2 cc ss
        have e0 : st = [] := List.eq_nil_of_length_eq_zero (by have : (st.length : Int) ≤ 0 := hiv; omega)
        rw [e0]
        show 0 + (13 * (2 + 1) + 43) ≤ 64 * (d + 1)
        omega
