/-! THE SIMULATION: a clean run is a run of the machine -/
section SMAIN
variable {p : Program} {l : Launch} {e : Env} {R : Room} {s : State} {m : MethodId} {args : Array Value} {below : List Frame} {meth : Method} {c : Code} {k : Nat} {D : va_G} {A : Nat → Prop} {ad0 : Nat → Nat} {h0 hF : cm_H} {Fin : State → Prop} {d : Nat}
def is_ret (ci : Instr) : Prop := ci = .ireturn ∨ ci = .freturn ∨ ci = .areturn ∨ ci = .return_ ∨ ci = .athrow
def cm_qe (r : Option cm_V) (hF : cm_H) : cm_Q := fun r1 h1 => r1 = r ∧ h1 = hF
theorem cm_call_recv {d k : Nat} {as : List cm_V} {h : cm_H} {Q : cm_Q} (H : cm_call d k as h Q) : cm_rk (cm_ow k) as = true ∧ cm_rc (cm_ow k) as := by
  cases d with
  | zero => exact H.elim
  | succ d =>
    unfold cm_call at H
    obtain ⟨a, b⟩ := ck_inv H
    simp only [Bool.and_eq_true] at a
    exact ⟨a.2, b.1⟩
set_option maxHeartbeats 4000000 in
set_option maxRecDepth 100000 in
theorem sm_ins {r : Option cm_V} (X : sm_X p R s m args meth c k D A h0 hF d) (hcall : ∀ (k2 : Nat) (as : List cm_V) (h : cm_H) (r2 : Option cm_V) (h2 : cm_H), k2 < 245 → k2 ≠ m_Works_term → cm_call d k2 as h (cm_qe r2 h2) → sm_Met l d k2 as h h2 r2)
    (hret : ∀ (pc nx : Nat) (ci : Instr) (ls : cm_L) (st : List cm_V) (h : cm_H), is_ret ci → ok_I k pc ci nx = true → cm_ins (cm_call d) ci nx ls st h (sm_K p l e R s m args below meth c k D A ad0 h0 hF Fin) (cm_qe r hF) → sm_J p l e R s m args below meth c k D A ad0 h0 Fin pc ls st h)
    {pc nx : Nat} {ci : Instr} {ls : cm_L} {st : List cm_V} {h : cm_H} (ho : ok_I k pc ci nx = true) (hg : cm_ge h hF) (H : cm_ins (cm_call d) ci nx ls st h (sm_K p l e R s m args below meth c k D A ad0 h0 hF Fin) (cm_qe r hF)) : sm_J p l e R s m args below meth c k D A ad0 h0 Fin pc ls st h := by
  have H0 := H
  unfold cm_ins at H
  split at H
  · exact so_iconst X ho H.1 H.2.2
  · exact so_lconst X ho H.1 H.2.2
  · obtain ⟨v, h1, h2⟩ := gi_inv H
    exact so_iload X ho h1 h2.2
  · obtain ⟨v, h1, h2⟩ := gl_inv H
    exact so_lload X ho h1 h2.2
  · obtain ⟨v, a, h1, h2⟩ := gr_inv H
    exact so_aload X ho h1 h2.2
  · obtain ⟨v, t, rfl, h2⟩ := p1_inv H
    exact so_istore X ho h2.2
  · obtain ⟨v, t, rfl, h2⟩ := pl_inv H
    exact so_lstore X ho h2.2
  · obtain ⟨c9, a, t, rfl, h2⟩ := pr_inv H
    exact so_astore X ho h2.2
  · obtain ⟨v, h1, h2⟩ := gi_inv H
    exact so_iinc X ho h1 h2.1 h2.2.2
  · obtain ⟨x, y, t, rfl, h2⟩ := p2_inv H
    exact so_iadd X ho h2.1 h2.2.2
  · obtain ⟨x, y, t, rfl, h2⟩ := p2_inv H
    exact so_isub X ho h2.1 h2.2.2
  · obtain ⟨x, y, t, rfl, h2⟩ := p2_inv H
    exact so_imul X ho h2.1 h2.2.2
  · obtain ⟨x, y, t, rfl, h2⟩ := p2_inv H
    exact so_idiv X ho h2.1 h2.2.2
  · obtain ⟨x, y, t, rfl, h2⟩ := p2_inv H
    exact so_irem X ho h2.1 h2.2.2
  · obtain ⟨x, t, rfl, h2⟩ := p1_inv H
    exact so_ineg X ho h2.1 h2.2.2
  · obtain ⟨x, y, t, rfl, h2⟩ := p2_inv H
    exact so_iand X ho h2.1 h2.2.2
  · obtain ⟨x, y, t, rfl, h2⟩ := p2_inv H
    exact so_ishr X ho h2.1 h2.2.2
  · obtain ⟨x, t, rfl, h2⟩ := p1_inv H
    exact so_i2b X ho h2.2
  · obtain ⟨x, y, t, rfl, h2⟩ := p2_inv H
    obtain ⟨h3, h4⟩ := ck_inv h2
    exact so_floorMod X hg ho (Nat.le_of_ble_eq_true h3) h4.1 h4.2.2
  · obtain ⟨x, y, t, rfl, h2⟩ := p2_inv H
    obtain ⟨h3, h4⟩ := ck_inv h2
    exact so_max X hg ho (Nat.le_of_ble_eq_true h3) h4.2
  · obtain ⟨x, y, t, rfl, h2⟩ := p2_inv H
    obtain ⟨h3, h4⟩ := ck_inv h2
    exact so_min X hg ho (Nat.le_of_ble_eq_true h3) h4.2
  · obtain ⟨x, t, rfl, h2⟩ := p1_inv H
    exact so_i2l X ho h2.2
  · obtain ⟨x, t, rfl, h2⟩ := pl_inv H
    exact so_l2i X ho h2.1 h2.2.2
  · obtain ⟨y, t, rfl, h2⟩ := pl_inv H
    obtain ⟨x, t, rfl, h2⟩ := pl_inv h2
    exact so_ladd X ho h2.1 h2.2.2
  · obtain ⟨y, t, rfl, h2⟩ := pl_inv H
    obtain ⟨x, t, rfl, h2⟩ := pl_inv h2
    exact so_lsub X ho h2.1 h2.2.2
  · obtain ⟨y, t, rfl, h2⟩ := pl_inv H
    obtain ⟨x, t, rfl, h2⟩ := pl_inv h2
    exact so_lmul X ho h2.1 h2.2.2
  · obtain ⟨y, t, rfl, h2⟩ := pl_inv H
    obtain ⟨x, t, rfl, h2⟩ := pl_inv h2
    exact so_lrem X ho h2.1 h2.2.2
  · obtain ⟨y, t, rfl, h2⟩ := pl_inv H
    obtain ⟨x, t, rfl, h2⟩ := pl_inv h2
    exact so_lcmp X ho h2.2
  · obtain ⟨x, y, t, rfl, h2⟩ := p2_inv H
    refine so_icmp X ho ?_
    rename_i cd tg
    cases cd <;> exact ⟨fun q => (h2.1 q).2, fun q => (h2.2 q).2⟩
  · obtain ⟨x, t, rfl, h2⟩ := p1_inv H
    refine so_if X ho ?_
    rename_i cd tg
    cases cd <;> exact ⟨fun q => (h2.1 q).2, fun q => (h2.2 q).2⟩
  · exact so_goto X ho H.2
  · obtain ⟨x, t, rfl, h2⟩ := p1_inv H
    refine so_switch X ho ?_
    rename_i dd ps
    generalize ps.toList = pl at h2
    clear ho H H0
    induction pl with
    | nil => exact h2.2
    | cons q pl ih =>
      obtain ⟨a9, b9⟩ := q
      exact ⟨fun z => (h2.1 z).2, fun z => ih (h2.2 z)⟩
  · obtain ⟨c9, a, t, rfl, h2⟩ := pr_inv H
    obtain ⟨h3, h4⟩ := ck_inv h2
    exact so_getI X ho h3 h4.1 h4.2.2
  · obtain ⟨c9, a, t, rfl, h2⟩ := pr_inv H
    obtain ⟨h3, h4⟩ := ck_inv h2
    exact so_getR X ho h3 h4.1 h4.2.2
  · obtain ⟨v, t, rfl, h2⟩ := p1_inv H
    obtain ⟨c9, a, t, rfl, h2⟩ := pr_inv h2
    obtain ⟨h3, h4⟩ := ck_inv h2
    exact so_putI X (Or.inl rfl) ho h3 h4.1 h4.2.2
  · obtain ⟨v, t, rfl, h2⟩ := p1_inv H
    obtain ⟨c9, a, t, rfl, h2⟩ := pr_inv h2
    obtain ⟨h3, h4⟩ := ck_inv h2
    exact so_putI X (Or.inr ⟨rfl, h4.1⟩) ho h3 h4.2.1 h4.2.2.2
  · obtain ⟨c8, b, t, rfl, h2⟩ := pr_inv H
    obtain ⟨c9, a, t, rfl, h2⟩ := pr_inv h2
    obtain ⟨h3, h4⟩ := ck_inv h2
    obtain ⟨h5, h6⟩ := ck_inv h4
    exact so_putR X ho h3 h5 h6.1 h6.2.2
  · obtain ⟨i, t, rfl, h2⟩ := p1_inv H
    obtain ⟨c9, a, t, rfl, h2⟩ := pr_inv h2
    obtain ⟨h3, h4⟩ := ck_inv h2
    have := Nat.eq_of_beq_eq_true h3
    subst this
    exact so_iaload (Or.inl ⟨rfl, rfl⟩) X ho h4.1 ⟨h4.2.1, h4.2.2.1⟩ h4.2.2.2.2
  · obtain ⟨i, t, rfl, h2⟩ := p1_inv H
    obtain ⟨c9, a, t, rfl, h2⟩ := pr_inv h2
    obtain ⟨h3, h4⟩ := ck_inv h2
    refine so_iaload (Or.inr ⟨rfl, ?_⟩) X ho h4.1 ⟨h4.2.1, h4.2.2.1⟩ h4.2.2.2.2
    rw [Bool.or_eq_true] at h3
    rcases h3 with q | q
    · exact Or.inl (Nat.eq_of_beq_eq_true q)
    · exact Or.inr (Nat.eq_of_beq_eq_true q)
  · obtain ⟨i, t, rfl, h2⟩ := p1_inv H
    obtain ⟨c9, a, t, rfl, h2⟩ := pr_inv h2
    obtain ⟨h3, h4⟩ := ck_inv h2
    exact so_aaload X ho h3 h4.1 ⟨h4.2.1, h4.2.2.1⟩ h4.2.2.2.2
  · obtain ⟨i, v, t, rfl, h2⟩ := p2_inv H
    obtain ⟨c9, a, t, rfl, h2⟩ := pr_inv h2
    obtain ⟨h3, h4⟩ := ck_inv h2
    have := Nat.eq_of_beq_eq_true h3
    subst this
    exact so_iastore X ho h4.1 ⟨h4.2.1, h4.2.2.1⟩ h4.2.2.2.2
  · obtain ⟨i, v, t, rfl, h2⟩ := p2_inv H
    obtain ⟨c9, a, t, rfl, h2⟩ := pr_inv h2
    obtain ⟨h3, h4⟩ := ck_inv h2
    exact so_bastore X ho h3 h4.1 h4.2.1 ⟨h4.2.2.1, h4.2.2.2.1⟩ h4.2.2.2.2.2
  · obtain ⟨c8, b, t, rfl, h2⟩ := pr_inv H
    obtain ⟨i, t, rfl, h2⟩ := p1_inv h2
    obtain ⟨c9, a, t, rfl, h2⟩ := pr_inv h2
    obtain ⟨h3, h4⟩ := ck_inv h2
    obtain ⟨h5, h6⟩ := ck_inv h4
    exact so_aastore X ho h3 h5 h6.1 h6.2.1 ⟨h6.2.2.1, h6.2.2.2.1⟩ h6.2.2.2.2.2
  · obtain ⟨c9, a, t, rfl, h2⟩ := pr_inv H
    obtain ⟨h3, h4⟩ := ck_inv h2
    exact so_alen X ho h3 h4.1 h4.2.2
  · exact so_new X ho H.1 H.2
  · obtain ⟨n, t, rfl, h2⟩ := p1_inv H
    exact so_newK (Or.inl ⟨rfl, rfl⟩) X ho h2.1 h2.2.1 h2.2.2
  · obtain ⟨n, t, rfl, h2⟩ := p1_inv H
    exact so_newK (Or.inr (Or.inl ⟨rfl, rfl⟩)) X ho h2.1 h2.2.1 h2.2.2
  · obtain ⟨n, t, rfl, h2⟩ := p1_inv H
    exact so_newK (Or.inr (Or.inr ⟨rfl, rfl⟩)) X ho h2.1 h2.2.1 h2.2.2
  · obtain ⟨n, t, rfl, h2⟩ := p1_inv H
    exact so_newA X ho h2.1 h2.2.1 h2.2.2
  · obtain ⟨n, n2, t, rfl, h2⟩ := p2_inv H
    exact so_newM X ho h2.1 h2.2.1 h2.2.2
  · obtain ⟨v, t, rfl, h2⟩ := pv_inv H
    obtain ⟨h3, h4⟩ := ck_inv h2
    exact so_dup X ho h3 h4.2
  · obtain ⟨v, t, rfl, h2⟩ := pv_inv H
    obtain ⟨w, t, rfl, h2⟩ := pv_inv h2
    obtain ⟨h3, h4⟩ := ck_inv h2
    exact so_dup2 X ho h3 h4.2
  · obtain ⟨v, t, rfl, h2⟩ := pv_inv H
    obtain ⟨h3, h4⟩ := ck_inv h2
    exact so_pop X ho h3 h4.2
  · obtain ⟨c9, a, t, rfl, h2⟩ := pr_inv H
    obtain ⟨h3, h4⟩ := ck_inv h2
    exact so_objInit X ho h3 h4.1 h4.2.2
  · obtain ⟨j, n, t1, rfl, h21⟩ := p2_inv H
    obtain ⟨c9, b, t2, rfl, h22⟩ := pr_inv h21
    obtain ⟨i, t3, rfl, h23⟩ := p1_inv h22
    obtain ⟨c8, a, t4, rfl, h24⟩ := pr_inv h23
    obtain ⟨h3, h4⟩ := ck_inv h24
    simp only [Bool.and_eq_true] at h3
    have e1 := Nat.eq_of_beq_eq_true h3.1.1
    have e2 := Nat.eq_of_beq_eq_true h3.1.2
    subst e1; subst e2
    obtain ⟨g1, g2, g3, g4, g5, g6, g7, g8⟩ := h4
    exact so_copy X ho (Nat.le_of_ble_eq_true h3.2) g1 g2 g3 g4 g5 g6 g7 g8.2
  · obtain ⟨as, t, rfl, hl, h2⟩ := pop_inv _ _ _ H
    rw [List.append_nil] at h2
    obtain ⟨h3, h4⟩ := ck_inv h2
    obtain ⟨r2, h5, a1, a2, a3⟩ := cm_call_nice d _ _ _ _ h4
    have hm2 : ∀ m2 n, ok_I k pc (.invokeinterface m2 n) nx = true → m2 < 245 ∧ m2 ≠ m_Works_term := by
      intro m2 n q
      obtain ⟨raw, len, -, -, hR⟩ := ok_I_inv q
      dsimp only [ok_R] at hR
      rw [Bool.and_eq_true] at hR
      refine ⟨Nat.le_of_ble_eq_true hR.1, fun z => ?_⟩
      subst z
      have hno : sm_ml.all (fun e => !(Nat.beq e.2.1 m_Works_term && Nat.blt e.1 14000)) = true := by decide +kernel
      have hno2 : sm_mnL.all (fun e => !(Nat.beq e.2 m_Works_term)) = true := by decide +kernel
      have hk14 : sm_ow k < 14 := (tk_m X.2.2.2.2.2.2.2.2.2.2.2.2.2.2.1).2.1
      have key : ∀ idx, ok_m (sm_ow k) idx m_Works_term = true → Nat.blt idx 1000 = true → False := by
        intro idx q1 q2
        unfold ok_m at q1
        rw [Bool.or_eq_true] at q1
        have q2 : idx < 1000 := Nat.le_of_ble_eq_true q2
        rcases q1 with q1 | q1
        · obtain ⟨z, hz, hz2⟩ := List.any_eq_true.mp q1
          have := List.all_eq_true.mp hno z hz
          rw [Bool.and_eq_true] at hz2
          have e1 := Nat.eq_of_beq_eq_true hz2.1
          have e2 : Nat.blt z.1 14000 = true := Nat.ble_eq_true_of_le (show z.1 + 1 ≤ 14000 by omega)
          rw [hz2.2, e2] at this
          cases this
        · obtain ⟨z, hz, hz2⟩ := List.any_eq_true.mp q1
          have := List.all_eq_true.mp hno2 z hz
          rw [Bool.and_eq_true] at hz2
          rw [hz2.2] at this
          cases this
      have hR2 := hR.2
      split at hR2
      · simp only [Bool.and_eq_true] at hR2
        exact key _ hR2.1.1.1.1.1.1 hR2.1.1.1.1.1.2
      · simp only [Bool.and_eq_true] at hR2
        exact key _ hR2.1.1.1.1 hR2.1.1.1.2
      · simp only [Bool.and_eq_true] at hR2
        exact key _ hR2.1.1.1.1.1 hR2.1.1.1.1.2
      · cases hR2
    obtain ⟨m1, m2⟩ := hm2 _ _ ho
    exact so_call X ho hl (Nat.le_of_ble_eq_true h3) (hcall _ _ _ _ _ m1 m2 (a3 _ ⟨rfl, rfl⟩)) a2 a1.1 (cm_call_recv h4) a1.2
  · exact hret _ _ _ _ _ _ (Or.inl rfl) ho H0
  · exact hret _ _ _ _ _ _ (Or.inr (Or.inl rfl)) ho H0
  · exact hret _ _ _ _ _ _ (Or.inr (Or.inr (Or.inl rfl))) ho H0
  · exact hret _ _ _ _ _ _ (Or.inr (Or.inr (Or.inr (Or.inl rfl)))) ho H0
  · exact hret _ _ _ _ _ _ (Or.inr (Or.inr (Or.inr (Or.inr rfl)))) ho H0
  · exact H.elim
theorem sm_N {r : Option cm_V} (X : sm_X p R s m args meth c k D A h0 hF d) (hcall : ∀ (k2 : Nat) (as : List cm_V) (h : cm_H) (r2 : Option cm_V) (h2 : cm_H), k2 < 245 → k2 ≠ m_Works_term → cm_call d k2 as h (cm_qe r2 h2) → sm_Met l d k2 as h h2 r2)
    (hret : ∀ (pc nx : Nat) (ci : Instr) (ls : cm_L) (st : List cm_V) (h : cm_H), is_ret ci → ok_I k pc ci nx = true → cm_ins (cm_call d) ci nx ls st h (sm_K p l e R s m args below meth c k D A ad0 h0 hF Fin) (cm_qe r hF) → sm_J p l e R s m args below meth c k D A ad0 h0 Fin pc ls st h) :
    ∀ (n pc : Nat) (ls : cm_L) (st : List cm_V) (h : cm_H), cm_wN (cm_call d) (cm_code k) (cm_qe r hF) n pc ls st h → sm_K p l e R s m args below meth c k D A ad0 h0 hF Fin pc ls st h
  | 0, _, _, _, _, q => q.elim
  | n + 1, pc, ls, st, h, q => by
    obtain ⟨r1, h1, ⟨-, e1⟩, hg, -⟩ := cm_wN_leaf (cm_call_nice d) (n + 1) pc ls st h q
    rw [e1] at hg
    refine ⟨hg, ?_⟩
    have q2 : cm_step (cm_call d) (cm_code k) pc ls st h (cm_wN (cm_call d) (cm_code k) (cm_qe r hF) n) (cm_qe r hF) := q
    unfold cm_step at q2
    cases hc : cm_code k pc with
    | none => rw [hc] at q2; exact q2.elim
    | some cn =>
      obtain ⟨ci, nx⟩ := cn
      rw [hc] at q2
      have ho := ok_all X.2.2.2.2.2.2.2.2.2.2.2.2.2.2.1 pc ci nx hc
      refine sm_ins X hcall hret ho hg ?_
      rcases nice_ins (cm_call_nice d) ci nx ls st h _ _ q2 with ⟨p9, l9, s9, h9, a, b, ee⟩ | ⟨r9, h9, a, b, ee⟩
      · exact ee _ _ (sm_N X hcall hret n p9 l9 s9 h9 a)
      · exact ee _ _ a
end SMAIN
theorem ent_len {ad : Nat → Nat} : ∀ as : List cm_V, (lg_sl (as.map (en_V ad))).length = (cm_ent as).length
  | [] => rfl
  | .inl x :: t => by
    have := ent_len (ad := ad) t
    simp only [lg_sl, List.map_cons, List.flatMap_cons, cm_ent, List.length_append, List.length_cons] at this ⊢
    rw [this, if_neg (by rw [cat_en]; show ¬ 1 = 2; decide)]
    simp; omega
  | .inr (.inl x) :: t => by
    have := ent_len (ad := ad) t
    simp only [lg_sl, List.map_cons, List.flatMap_cons, cm_ent, List.length_append, List.length_cons] at this ⊢
    rw [this, if_neg (by rw [cat_en]; show ¬ 1 = 2; decide)]
    simp; omega
  | .inr (.inr x) :: t => by
    have := ent_len (ad := ad) t
    simp only [lg_sl, List.map_cons, List.flatMap_cons, cm_ent, List.length_append, List.length_cons] at this ⊢
    rw [this, if_pos (by rw [cat_en]; rfl)]
    simp; omega
theorem ent_mem {ad : Nat → Nat} : ∀ (as : List cm_V) (j i : Nat) (v : cm_V), cm_get (cm_ent as) i = some v → (j + i, en_V ad v) ∈ lv_args j (as.map (en_V ad)) ∧ v ∈ as
  | [], _, _, _, h => by simp [cm_ent, cm_get] at h
  | .inl x :: t, j, 0, v, h => by
    have : v = .inl x := by simpa [cm_ent, cm_get] using h.symm
    subst this
    exact ⟨List.mem_cons_self, List.mem_cons_self⟩
  | .inl x :: t, j, i + 1, v, h => by
    have := ent_mem (ad := ad) t (j + 1) i v h
    refine ⟨List.mem_cons_of_mem _ ?_, List.mem_cons_of_mem _ this.2⟩
    rw [if_neg (by rw [cat_en]; show ¬ 1 = 2; decide), show j + (i + 1) = j + 1 + i by omega]
    exact this.1
  | .inr (.inl x) :: t, j, 0, v, h => by
    have : v = .inr (.inl x) := by simpa [cm_ent, cm_get] using h.symm
    subst this
    exact ⟨List.mem_cons_self, List.mem_cons_self⟩
  | .inr (.inl x) :: t, j, i + 1, v, h => by
    have := ent_mem (ad := ad) t (j + 1) i v h
    refine ⟨List.mem_cons_of_mem _ ?_, List.mem_cons_of_mem _ this.2⟩
    rw [if_neg (by rw [cat_en]; show ¬ 1 = 2; decide), show j + (i + 1) = j + 1 + i by omega]
    exact this.1
  | .inr (.inr x) :: t, j, 0, v, h => by
    have : v = .inr (.inr x) := by simpa [cm_ent, cm_get] using h.symm
    subst this
    exact ⟨List.mem_cons_self, List.mem_cons_self⟩
  | .inr (.inr x) :: t, j, 1, v, h => by simp [cm_ent, cm_get] at h
  | .inr (.inr x) :: t, j, i + 2, v, h => by
    have := ent_mem (ad := ad) t (j + 2) i v h
    refine ⟨List.mem_cons_of_mem _ ?_, List.mem_cons_of_mem _ this.2⟩
    rw [if_pos (by rw [cat_en]; rfl), show j + (i + 2) = j + 2 + i by omega]
    exact this.1
theorem rep_get : ∀ (n : Nat) (l : cm_L) (i : Nat) (v : cm_V), cm_get (cm_rep n l) i = some v → cm_get l i = some v
  | 0, _, _, _, h => by simp [cm_rep, cm_get] at h
  | n + 1, [], 0, _, h => by simp [cm_rep, cm_get] at h
  | n + 1, [], i + 1, v, h => by
    have := rep_get n [] i v h
    simp [cm_get] at this
  | n + 1, x :: t, 0, v, h => h
  | n + 1, x :: t, i + 1, v, h => rep_get n t i v h
theorem lok_inv (L : List Nat) : ∀ (l : cm_L) (j i : Nat) (x : Int), cm_lok L j l = true → cm_get l i = some (.inr (.inr x)) → j + i ∈ L
  | [], _, _, _, _, h => by simp [cm_get] at h
  | some (.inr (.inr y)) :: t, j, 0, x, h, _ => by
    unfold cm_lok at h
    rw [Bool.and_eq_true] at h
    exact List.contains_iff_mem.mp h.1
  | some (.inr (.inr y)) :: t, j, i + 1, x, h, hg => by
    unfold cm_lok at h
    rw [Bool.and_eq_true] at h
    have := lok_inv L t (j + 1) i x h.2 hg
    rw [show j + (i + 1) = j + 1 + i by omega]
    exact this
  | none :: t, j, 0, x, h, hg => by cases hg
  | none :: t, j, i + 1, x, h, hg => by
    have := lok_inv L t (j + 1) i x h hg
    rw [show j + (i + 1) = j + 1 + i by omega]
    exact this
  | some (.inl y) :: t, j, 0, x, h, hg => by cases hg
  | some (.inl y) :: t, j, i + 1, x, h, hg => by
    have := lok_inv L t (j + 1) i x h hg
    rw [show j + (i + 1) = j + 1 + i by omega]
    exact this
  | some (.inr (.inl y)) :: t, j, 0, x, h, hg => by cases hg
  | some (.inr (.inl y)) :: t, j, i + 1, x, h, hg => by
    have := lok_inv L t (j + 1) i x h hg
    rw [show j + (i + 1) = j + 1 + i by omega]
    exact this
theorem sm_entry {ad : Nat → Nat} {h : cm_H} {k : Nat} {as : List cm_V} {ls' : Array Slot} (hl : lv_has ls' (cm_maxL k) (lv_args 0 (as.map (en_V ad)))) (hlok : cm_lok (cm_LI k) 0 (cm_ent as) = true) (hv : ∀ v ∈ as, vok h v) : sm_lr ad h k (cm_entry (cm_maxL k) as) ls' := by
  refine ⟨⟨hl.1, hl.2.1, fun q hq => ?_⟩, fun i v hi => hv v (ent_mem (ad := ad) as 0 i v (rep_get _ _ _ _ hi)).2, fun i x hi => ?_⟩
  · obtain ⟨v, hg, e⟩ := lv_of_inv hq
    have := (ent_mem (ad := ad) as 0 q.1 v (rep_get _ _ _ _ hg)).1
    rw [Nat.zero_add, ← e] at this
    exact hl.2.2 q this
  · have := lok_inv (cm_LI k) (cm_ent as) 0 i x hlok (rep_get _ _ _ _ hi)
    rw [Nat.zero_add] at this
    exact this
/-- EVERY METHOD (but the one that throws): a clean call is a call of the machine -/
theorem sm_meth (l : Launch) : ∀ (d k : Nat) (as : List cm_V) (h : cm_H) (r : Option cm_V) (hF : cm_H), k < 245 → k ≠ m_Works_term → cm_call d k as h (cm_qe r hF) → sm_Met l d k as h hF r
  | 0, _, _, _, _, _, _, _, q => q.elim
  | d + 1, k, as, h, r, hF, hk, hkt, q => by
    intro D ad cl sz hok hvas
    obtain ⟨t1, t2, t3, t4, t5, t6, t7, t8⟩ := tk_m hk
    refine Met.ofW (cc := sm_b k) (maxL := cm_maxL k) (ret := sm_rt k) t3 rfl ?_
    intro p e s m args below meth c s₁ B hml hv
    obtain ⟨rfl, hsz, hP, hD0, hK, har, hnest, hG, hPc, hI⟩ := hv
    have hts := atoms_spec (ws := sm_wd k) B.pre
    have hown : s.vm.findClass (sm_y k).cls = some m.cls := findClass_of_methodNamed B.named
    have hname := (name_of_methodNamed B.named B.method).1
    subst hsz
    have hD := hD0.self (sz := s.heap.size)
    unfold cm_call at q
    obtain ⟨q1, q2, n, q3⟩ := ck_inv q
    simp only [Bool.and_eq_true] at q1
    obtain ⟨⟨c1, c2⟩, c3⟩ := q1
    have c1 := Nat.le_of_ble_eq_true c1
    have hl := lv_entry (as.map (en_V ad)) (n := cm_maxL k) (by rw [ent_len]; exact c1)
    have X : sm_X p (sm_rm (d + 1) h hF) s m (as.map (en_V ad)).toArray meth c k D (va_A (sm_ws ad cl h) s.heap.size) h hF d := by
      refine ⟨B.exec, B.bytes, hml, by rw [← t1]; exact hown, fun w hw => hts w (List.mem_cons_of_mem _ hw), B.returns, B.notSynchronized, fun z => by rw [hname]; exact t7.mp z, hK, hnest, hG, hPc, hI, fun q z => Or.inr z, hk, rfl, rfl, rfl, rfl⟩
    have KK := sm_N (l := l) (e := e) (below := below) (ad0 := ad) (Fin := MQ below (sm_Qc D ad h hF r (va_A (sm_ws ad cl h) s.heap.size)) (as.map (en_V ad)).toArray s (ch_c hF - ch_c h) (ch_s hF - ch_s h) (va_A (sm_ws ad cl h) s.heap.size)) X (fun k2 as2 h2 r2 h3 z1 z2 z3 => sm_meth l d k2 as2 h2 r2 h3 z1 z2 z3) (fun pc nx ci ls st h9 hri ho hci => ?_) n 0 _ _ _ q3
    · have G := KK.2 ad cl s.heap [] _ ⟨hP, hD, va_S.rf, hok, har, sm_entry hl c2 hvas, fun _ z => (by cases z), cm_ge.rf h, Nat.le_refl _, fun a _ => ⟨rfl, rfl⟩⟩
      rw [Nat.sub_self, Nat.sub_self] at G
      rw [lg_entry_eq]
      exact G
    · obtain ⟨hx, hb, -, -, -, hr, hlocks, -⟩ := X
      intro ad9 cl9 H locs ls' S
      obtain ⟨S1, S2, S3, S4, S5, S6, S7, S8, S9, S10⟩ := S
      obtain ⟨raw, len, hd, rfl, hR⟩ := ok_I_inv ho
      have fin : ∀ v : Option Value, v = r.map (en_V ad9) → h9 = hF → (∀ x, r = some x → vok h9 x) → ∀ t : State, t.heap = H → s.WarmedH t.vm → sm_Qc D ad h hF r (va_A (sm_ws ad cl h) s.heap.size) (as.map (en_V ad)).toArray s (.returned v) t := by
        intro v ev eh hvr t ht hW
        subst eh
        exact ⟨⟨v, rfl, ad9, cl9, ev, S4, hvr, by rw [ht]; exact S1, S2, sm_ar_moved hW.alike S5, S9, S10⟩, S3.F ht⟩
      rcases hri with rfl | rfl | rfl | rfl | rfl
      · obtain ⟨v, t, rfl, h2⟩ := p1_inv hci
        obtain ⟨h3, h4⟩ := ck_inv h2
        have ht : t = [] := by cases t; rfl; cases h3
        subst ht
        obtain ⟨e1, e2⟩ := h4
        dsimp only [ok_R] at hR
        simp only [Bool.and_eq_true, decide_eq_true_eq] at hR
        obtain ⟨⟨rfl, hl1⟩, hrt⟩ := hR
        have hl1 := Nat.eq_of_beq_eq_true hl1
        subst hl1
        subst e2
        exact W.iret hx hb (hr.trans hrt) (fin _ (by rw [← e1]; rfl) rfl (fun x z => by rw [← e1] at z; cases z; exact S7 _ List.mem_cons_self)) S3.2.2 hd
      · obtain ⟨v, t, rfl, h2⟩ := p1_inv hci
        obtain ⟨h3, h4⟩ := ck_inv h2
        have ht : t = [] := by cases t; rfl; cases h3
        subst ht
        obtain ⟨hv01, e1, e2⟩ := h4
        dsimp only [ok_R] at hR
        simp only [Bool.and_eq_true, decide_eq_true_eq] at hR
        obtain ⟨⟨rfl, hl1⟩, hrt⟩ := hR
        have hl1 := Nat.eq_of_beq_eq_true hl1
        subst hl1
        subst e2
        exact W.zret hx hb (hr.trans hrt) (by rcases hv01 with rfl | rfl <;> decide) (fin _ (by rw [← e1]; rfl) rfl (fun x z => by rw [← e1] at z; cases z; exact S7 _ List.mem_cons_self)) S3.2.2 hd
      · obtain ⟨c9, a, t, rfl, h2⟩ := pr_inv hci
        obtain ⟨h3, h4⟩ := ck_inv h2
        have ht : t = [] := by cases t; rfl; cases h3
        subst ht
        obtain ⟨ha, e1, e2⟩ := h4
        dsimp only [ok_R] at hR
        simp only [Bool.and_eq_true, decide_eq_true_eq] at hR
        obtain ⟨⟨rfl, hl1⟩, hrt⟩ := hR
        have hl1 := Nat.eq_of_beq_eq_true hl1
        subst hl1
        subst e2
        have hrt2 : ∃ rt, sm_rt k = some rt ∧ ((∃ n, rt = .object n) ∨ ∃ t, rt = .array t) := by
          split at hrt
          · exact ⟨_, by assumption, Or.inl ⟨_, rfl⟩⟩
          · exact ⟨_, by assumption, Or.inr ⟨_, rfl⟩⟩
          · cases hrt
        obtain ⟨rt, hrt3, hrt4⟩ := hrt2
        exact W.aret hx hb (hr.trans hrt3) hrt4 (Or.inr ⟨_, en_ref ha⟩) (fin _ (by rw [← e1]; rfl) rfl (fun x z => by rw [← e1] at z; cases z; exact S7 _ List.mem_cons_self)) S3.2.2 hd
      · obtain ⟨h3, h4⟩ := ck_inv hci
        have ht : st = [] := by cases st; rfl; cases h3
        subst ht
        obtain ⟨e1, e2⟩ := h4
        dsimp only [ok_R] at hR
        simp only [Bool.and_eq_true, decide_eq_true_eq] at hR
        obtain ⟨⟨rfl, hl1⟩, hrt⟩ := hR
        have hl1 := Nat.eq_of_beq_eq_true hl1
        subst hl1
        subst e2
        exact W.vret hx hb (hr.trans hrt) (fin _ (by rw [← e1]; rfl) rfl (fun x z => by rw [← e1] at z; cases z)) S3.2.2 hd
      · dsimp only [ok_R] at hR
        exact absurd (Nat.eq_of_beq_eq_true hR) hkt
