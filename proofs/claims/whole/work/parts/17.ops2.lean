/-! SIMULATION of arithmetic, stack and jumps (wip/whole/genops.py) -/
section SOP
variable {p : Program} {l : Launch} {e : Env} {R : Room} {s : State} {m : MethodId} {args : Array Value} {below : List Frame} {meth : Method} {c : Code} {k : Nat} {D : va_G} {A : Nat → Prop} {ad0 : Nat → Nat} {h0 hF : cm_H} {Fin : State → Prop} {d : Nat}
variable {pc nx : Nat} {ls : cm_L} {st t : List cm_V} {h : cm_H}
theorem ok_same {ci raw : Instr} {len n : Nat} (h : (decide (raw = ci) && Nat.beq len n) = true) : raw = ci ∧ len = n := by
  simp only [Bool.and_eq_true, decide_eq_true_eq] at h
  exact ⟨h.1, Nat.eq_of_beq_eq_true h.2⟩

theorem so_iadd {x y : Int} (X : sm_X p R s m args meth c k D A h0 hF d) (ho : ok_I k pc .iadd nx = true) (hv : cm_i (x + y)) (K : sm_J p l e R s m args below meth c k D A ad0 h0 Fin nx ls (.inl (x + y) :: st) h) : sm_J p l e R s m args below meth c k D A ad0 h0 Fin pc ls (.inl y :: .inl x :: st) h := by
  obtain ⟨raw, len, hd, rfl, hR⟩ := ok_I_inv ho
  obtain ⟨hx, hb, -⟩ := X
  intro ad cl H locs ls' S
  have V := List.forall_mem_cons.mp S.2.2.2.2.2.2.1
  have V2 := List.forall_mem_cons.mp V.2
  dsimp only [ok_R] at hR
  obtain ⟨rfl, rfl⟩ := ok_same hR
  have G := K ad cl H locs ls' (sS_st S (List.forall_mem_cons.mpr ⟨hv, V2.2⟩))
  refine lv_iadd hx hb hd ?_
  rw [← Int32.ofInt_add]
  exact G
theorem so_isub {x y : Int} (X : sm_X p R s m args meth c k D A h0 hF d) (ho : ok_I k pc .isub nx = true) (hv : cm_i (x - y)) (K : sm_J p l e R s m args below meth c k D A ad0 h0 Fin nx ls (.inl (x - y) :: st) h) : sm_J p l e R s m args below meth c k D A ad0 h0 Fin pc ls (.inl y :: .inl x :: st) h := by
  obtain ⟨raw, len, hd, rfl, hR⟩ := ok_I_inv ho
  obtain ⟨hx, hb, -⟩ := X
  intro ad cl H locs ls' S
  have V := List.forall_mem_cons.mp S.2.2.2.2.2.2.1
  have V2 := List.forall_mem_cons.mp V.2
  dsimp only [ok_R] at hR
  obtain ⟨rfl, rfl⟩ := ok_same hR
  have G := K ad cl H locs ls' (sS_st S (List.forall_mem_cons.mpr ⟨hv, V2.2⟩))
  refine lv_isub hx hb hd ?_
  rw [← Int32.ofInt_sub]
  exact G
theorem so_imul {x y : Int} (X : sm_X p R s m args meth c k D A h0 hF d) (ho : ok_I k pc .imul nx = true) (hv : cm_i (x * y)) (K : sm_J p l e R s m args below meth c k D A ad0 h0 Fin nx ls (.inl (x * y) :: st) h) : sm_J p l e R s m args below meth c k D A ad0 h0 Fin pc ls (.inl y :: .inl x :: st) h := by
  obtain ⟨raw, len, hd, rfl, hR⟩ := ok_I_inv ho
  obtain ⟨hx, hb, -⟩ := X
  intro ad cl H locs ls' S
  have V := List.forall_mem_cons.mp S.2.2.2.2.2.2.1
  have V2 := List.forall_mem_cons.mp V.2
  dsimp only [ok_R] at hR
  obtain ⟨rfl, rfl⟩ := ok_same hR
  have G := K ad cl H locs ls' (sS_st S (List.forall_mem_cons.mpr ⟨hv, V2.2⟩))
  refine lv_imul hx hb hd ?_
  rw [← Int32.ofInt_mul]
  exact G
theorem so_idiv {x y : Int} (X : sm_X p R s m args meth c k D A h0 hF d) (ho : ok_I k pc .idiv nx = true) (hv : 0 < y) (K : sm_J p l e R s m args below meth c k D A ad0 h0 Fin nx ls (.inl (x.tdiv y) :: st) h) : sm_J p l e R s m args below meth c k D A ad0 h0 Fin pc ls (.inl y :: .inl x :: st) h := by
  obtain ⟨raw, len, hd, rfl, hR⟩ := ok_I_inv ho
  obtain ⟨hx, hb, -⟩ := X
  intro ad cl H locs ls' S
  have V := List.forall_mem_cons.mp S.2.2.2.2.2.2.1
  have V2 := List.forall_mem_cons.mp V.2
  dsimp only [ok_R] at hR
  obtain ⟨rfl, rfl⟩ := ok_same hR
  have G := K ad cl H locs ls' (sS_st S (List.forall_mem_cons.mpr ⟨i3_div_ok V2.1 hv, V2.2⟩))
  refine lv_idiv hx hb hd (fun q => by rw [← i3_z, i3_eq V.1 i3_0] at q; omega) ?_
  rw [i3_div V2.1 V.1 hv]
  exact G
theorem so_irem {x y : Int} (X : sm_X p R s m args meth c k D A h0 hF d) (ho : ok_I k pc .irem nx = true) (hv : 0 < y) (K : sm_J p l e R s m args below meth c k D A ad0 h0 Fin nx ls (.inl (x.tmod y) :: st) h) : sm_J p l e R s m args below meth c k D A ad0 h0 Fin pc ls (.inl y :: .inl x :: st) h := by
  obtain ⟨raw, len, hd, rfl, hR⟩ := ok_I_inv ho
  obtain ⟨hx, hb, -⟩ := X
  intro ad cl H locs ls' S
  have V := List.forall_mem_cons.mp S.2.2.2.2.2.2.1
  have V2 := List.forall_mem_cons.mp V.2
  dsimp only [ok_R] at hR
  obtain ⟨rfl, rfl⟩ := ok_same hR
  have G := K ad cl H locs ls' (sS_st S (List.forall_mem_cons.mpr ⟨i3_rem_ok V.1 hv, V2.2⟩))
  refine lv_irem hx hb hd (fun q => by rw [← i3_z, i3_eq V.1 i3_0] at q; omega) ?_
  rw [i3_rem V2.1 V.1 hv]
  exact G
theorem so_iand {x y : Int} (X : sm_X p R s m args meth c k D A h0 hF d) (ho : ok_I k pc .iand nx = true) (hv : y = 1 ∨ y = 255) (K : sm_J p l e R s m args below meth c k D A ad0 h0 Fin nx ls (.inl (x % (y + 1)) :: st) h) : sm_J p l e R s m args below meth c k D A ad0 h0 Fin pc ls (.inl y :: .inl x :: st) h := by
  obtain ⟨raw, len, hd, rfl, hR⟩ := ok_I_inv ho
  obtain ⟨hx, hb, -⟩ := X
  intro ad cl H locs ls' S
  have V := List.forall_mem_cons.mp S.2.2.2.2.2.2.1
  have V2 := List.forall_mem_cons.mp V.2
  dsimp only [ok_R] at hR
  obtain ⟨rfl, rfl⟩ := ok_same hR
  have G := K ad cl H locs ls' (sS_st S (List.forall_mem_cons.mpr ⟨i3_and_ok hv, V2.2⟩))
  refine lv_iand hx hb hd ?_
  rw [i3_and V2.1 hv]
  exact G
theorem so_ishr {x y : Int} (X : sm_X p R s m args meth c k D A h0 hF d) (ho : ok_I k pc .ishr nx = true) (hv : 0 ≤ y ∧ y < 32) (K : sm_J p l e R s m args below meth c k D A ad0 h0 Fin nx ls (.inl (x / 2 ^ y.toNat) :: st) h) : sm_J p l e R s m args below meth c k D A ad0 h0 Fin pc ls (.inl y :: .inl x :: st) h := by
  obtain ⟨raw, len, hd, rfl, hR⟩ := ok_I_inv ho
  obtain ⟨hx, hb, -⟩ := X
  intro ad cl H locs ls' S
  have V := List.forall_mem_cons.mp S.2.2.2.2.2.2.1
  have V2 := List.forall_mem_cons.mp V.2
  dsimp only [ok_R] at hR
  obtain ⟨rfl, rfl⟩ := ok_same hR
  have G := K ad cl H locs ls' (sS_st S (List.forall_mem_cons.mpr ⟨i3_shr_ok V2.1, V2.2⟩))
  refine lv_ishr hx hb hd ?_
  rw [i3_shr V2.1 hv]
  exact G
theorem so_ladd {x y : Int} (X : sm_X p R s m args meth c k D A h0 hF d) (ho : ok_I k pc .ladd nx = true) (hv : cm_l (x + y)) (K : sm_J p l e R s m args below meth c k D A ad0 h0 Fin nx ls (.inr (.inr (x + y)) :: st) h) : sm_J p l e R s m args below meth c k D A ad0 h0 Fin pc ls (.inr (.inr y) :: .inr (.inr x) :: st) h := by
  obtain ⟨raw, len, hd, rfl, hR⟩ := ok_I_inv ho
  obtain ⟨hx, hb, -⟩ := X
  intro ad cl H locs ls' S
  have V := List.forall_mem_cons.mp S.2.2.2.2.2.2.1
  have V2 := List.forall_mem_cons.mp V.2
  dsimp only [ok_R] at hR
  obtain ⟨rfl, rfl⟩ := ok_same hR
  have G := K ad cl H locs ls' (sS_st S (List.forall_mem_cons.mpr ⟨hv, V2.2⟩))
  refine lv_ladd hx hb hd ?_
  rw [← Int64.ofInt_add]
  exact G
theorem so_lsub {x y : Int} (X : sm_X p R s m args meth c k D A h0 hF d) (ho : ok_I k pc .lsub nx = true) (hv : cm_l (x - y)) (K : sm_J p l e R s m args below meth c k D A ad0 h0 Fin nx ls (.inr (.inr (x - y)) :: st) h) : sm_J p l e R s m args below meth c k D A ad0 h0 Fin pc ls (.inr (.inr y) :: .inr (.inr x) :: st) h := by
  obtain ⟨raw, len, hd, rfl, hR⟩ := ok_I_inv ho
  obtain ⟨hx, hb, -⟩ := X
  intro ad cl H locs ls' S
  have V := List.forall_mem_cons.mp S.2.2.2.2.2.2.1
  have V2 := List.forall_mem_cons.mp V.2
  dsimp only [ok_R] at hR
  obtain ⟨rfl, rfl⟩ := ok_same hR
  have G := K ad cl H locs ls' (sS_st S (List.forall_mem_cons.mpr ⟨hv, V2.2⟩))
  refine lv_lsub hx hb hd ?_
  rw [← Int64.ofInt_sub]
  exact G
theorem so_lmul {x y : Int} (X : sm_X p R s m args meth c k D A h0 hF d) (ho : ok_I k pc .lmul nx = true) (hv : cm_l (x * y)) (K : sm_J p l e R s m args below meth c k D A ad0 h0 Fin nx ls (.inr (.inr (x * y)) :: st) h) : sm_J p l e R s m args below meth c k D A ad0 h0 Fin pc ls (.inr (.inr y) :: .inr (.inr x) :: st) h := by
  obtain ⟨raw, len, hd, rfl, hR⟩ := ok_I_inv ho
  obtain ⟨hx, hb, -⟩ := X
  intro ad cl H locs ls' S
  have V := List.forall_mem_cons.mp S.2.2.2.2.2.2.1
  have V2 := List.forall_mem_cons.mp V.2
  dsimp only [ok_R] at hR
  obtain ⟨rfl, rfl⟩ := ok_same hR
  have G := K ad cl H locs ls' (sS_st S (List.forall_mem_cons.mpr ⟨hv, V2.2⟩))
  refine lv_lmul hx hb hd ?_
  rw [← Int64.ofInt_mul]
  exact G
theorem so_lrem {x y : Int} (X : sm_X p R s m args meth c k D A h0 hF d) (ho : ok_I k pc .lrem nx = true) (hv : 0 < y) (K : sm_J p l e R s m args below meth c k D A ad0 h0 Fin nx ls (.inr (.inr (x.tmod y)) :: st) h) : sm_J p l e R s m args below meth c k D A ad0 h0 Fin pc ls (.inr (.inr y) :: .inr (.inr x) :: st) h := by
  obtain ⟨raw, len, hd, rfl, hR⟩ := ok_I_inv ho
  obtain ⟨hx, hb, -⟩ := X
  intro ad cl H locs ls' S
  have V := List.forall_mem_cons.mp S.2.2.2.2.2.2.1
  have V2 := List.forall_mem_cons.mp V.2
  dsimp only [ok_R] at hR
  obtain ⟨rfl, rfl⟩ := ok_same hR
  have G := K ad cl H locs ls' (sS_st S (List.forall_mem_cons.mpr ⟨i6_rem_ok V.1 hv, V2.2⟩))
  refine lv_lrem hx hb hd (fun q => ?_) ?_
  · have q2 := congrArg Int64.toInt q
    rw [i6_to V.1] at q2
    have q3 : (0 : Int64).toInt = 0 := by decide
    omega
  · rw [i6_rem V2.1 V.1 hv]
    exact G
theorem so_lcmp {x y : Int} (X : sm_X p R s m args meth c k D A h0 hF d) (ho : ok_I k pc .lcmp nx = true) (K : sm_J p l e R s m args below meth c k D A ad0 h0 Fin nx ls (.inl (if x < y then -1 else if x = y then 0 else 1) :: st) h) : sm_J p l e R s m args below meth c k D A ad0 h0 Fin pc ls (.inr (.inr y) :: .inr (.inr x) :: st) h := by
  obtain ⟨raw, len, hd, rfl, hR⟩ := ok_I_inv ho
  obtain ⟨hx, hb, -⟩ := X
  intro ad cl H locs ls' S
  have V := List.forall_mem_cons.mp S.2.2.2.2.2.2.1
  have V2 := List.forall_mem_cons.mp V.2
  dsimp only [ok_R] at hR
  obtain ⟨rfl, rfl⟩ := ok_same hR
  have G := K ad cl H locs ls' (sS_st S (List.forall_mem_cons.mpr ⟨by show cm_i _; unfold cm_i; split <;> (try split) <;> omega, V2.2⟩))
  refine W.lcmp hx hb hd ?_
  rw [i6_cmp V2.1 V.1]
  exact G
theorem so_ineg {x : Int} (X : sm_X p R s m args meth c k D A h0 hF d) (ho : ok_I k pc .ineg nx = true) (hv : cm_i (-x)) (K : sm_J p l e R s m args below meth c k D A ad0 h0 Fin nx ls (.inl (-x) :: st) h) : sm_J p l e R s m args below meth c k D A ad0 h0 Fin pc ls (.inl x :: st) h := by
  obtain ⟨raw, len, hd, rfl, hR⟩ := ok_I_inv ho
  obtain ⟨hx, hb, -⟩ := X
  intro ad cl H locs ls' S
  have V := List.forall_mem_cons.mp S.2.2.2.2.2.2.1
  dsimp only [ok_R] at hR
  obtain ⟨rfl, rfl⟩ := ok_same hR
  have G := K ad cl H locs ls' (sS_st S (List.forall_mem_cons.mpr ⟨hv, V.2⟩))
  refine lv_ineg hx hb hd ?_
  rw [← Int32.ofInt_neg]
  exact G
theorem so_i2b {x : Int} (X : sm_X p R s m args meth c k D A h0 hF d) (ho : ok_I k pc .i2b nx = true) (K : sm_J p l e R s m args below meth c k D A ad0 h0 Fin nx ls (.inl ((x + 128) % 256 - 128) :: st) h) : sm_J p l e R s m args below meth c k D A ad0 h0 Fin pc ls (.inl x :: st) h := by
  obtain ⟨raw, len, hd, rfl, hR⟩ := ok_I_inv ho
  obtain ⟨hx, hb, -⟩ := X
  intro ad cl H locs ls' S
  have V := List.forall_mem_cons.mp S.2.2.2.2.2.2.1
  dsimp only [ok_R] at hR
  obtain ⟨rfl, rfl⟩ := ok_same hR
  have G := K ad cl H locs ls' (sS_st S (List.forall_mem_cons.mpr ⟨i3_i2b_ok, V.2⟩))
  exact lv_i2b hx hb hd i3_i2b G
theorem so_i2l {x : Int} (X : sm_X p R s m args meth c k D A h0 hF d) (ho : ok_I k pc .i2l nx = true) (K : sm_J p l e R s m args below meth c k D A ad0 h0 Fin nx ls (.inr (.inr x) :: st) h) : sm_J p l e R s m args below meth c k D A ad0 h0 Fin pc ls (.inl x :: st) h := by
  obtain ⟨raw, len, hd, rfl, hR⟩ := ok_I_inv ho
  obtain ⟨hx, hb, -⟩ := X
  intro ad cl H locs ls' S
  have V := List.forall_mem_cons.mp S.2.2.2.2.2.2.1
  dsimp only [ok_R] at hR
  obtain ⟨rfl, rfl⟩ := ok_same hR
  have G := K ad cl H locs ls' (sS_st S (List.forall_mem_cons.mpr ⟨⟨by have := V.1.1; omega, by have := V.1.2; omega⟩, V.2⟩))
  exact lv_i2l hx hb hd (i3_i2l V.1) G
theorem so_l2i {x : Int} (X : sm_X p R s m args meth c k D A h0 hF d) (ho : ok_I k pc .l2i nx = true) (hv : cm_i x) (K : sm_J p l e R s m args below meth c k D A ad0 h0 Fin nx ls (.inl x :: st) h) : sm_J p l e R s m args below meth c k D A ad0 h0 Fin pc ls (.inr (.inr x) :: st) h := by
  obtain ⟨raw, len, hd, rfl, hR⟩ := ok_I_inv ho
  obtain ⟨hx, hb, -⟩ := X
  intro ad cl H locs ls' S
  have V := List.forall_mem_cons.mp S.2.2.2.2.2.2.1
  dsimp only [ok_R] at hR
  obtain ⟨rfl, rfl⟩ := ok_same hR
  have G := K ad cl H locs ls' (sS_st S (List.forall_mem_cons.mpr ⟨hv, V.2⟩))
  exact lv_l2i hx hb hd i3_l2i G
theorem so_icmp {cd : ClassFile.Cond} {t : Int} {x y : Int} (X : sm_X p R s m args meth c k D A h0 hF d) (ho : ok_I k pc (.if_icmp cd t) nx = true) (K : cm_cmp cd x y (sm_J p l e R s m args below meth c k D A ad0 h0 Fin t.toNat ls st h) (sm_J p l e R s m args below meth c k D A ad0 h0 Fin nx ls st h)) : sm_J p l e R s m args below meth c k D A ad0 h0 Fin pc ls (.inl y :: .inl x :: st) h := by
  obtain ⟨raw, len, hd, rfl, hR⟩ := ok_I_inv ho
  obtain ⟨hx, hb, -⟩ := X
  intro ad cl H locs ls' S
  have V := List.forall_mem_cons.mp S.2.2.2.2.2.2.1
  have V2 := List.forall_mem_cons.mp V.2
  have S' := sS_st S V2.2
  dsimp only [ok_R] at hR
  split at hR
  · simp only [Bool.and_eq_true, decide_eq_true_eq] at hR
    obtain ⟨⟨⟨rfl, h2⟩, h3⟩, h4⟩ := hR
    have hl := Nat.eq_of_beq_eq_true h4
    subst hl
    rename_i cd off
    have ht : (pc : Int) + off = ((t.toNat : Nat) : Int) := by omega
    cases cd
    · exact lv_icmp_eq hx hb hd ht (fun q => K.1 ((i3_eq V2.1 V.1).mp q) ad cl H locs ls' S') (fun q => K.2 (fun z => q ((i3_eq V2.1 V.1).mpr z)) ad cl H locs ls' S')
    · exact lv_icmp_ne hx hb hd ht (fun q => K.1 (fun z => q ((i3_eq V2.1 V.1).mpr z)) ad cl H locs ls' S') (fun q => K.2 ((i3_eq V2.1 V.1).mp q) ad cl H locs ls' S')
    · exact lv_icmp_lt hx hb hd ht (fun q => K.1 ((i3_lt V2.1 V.1).mp q) ad cl H locs ls' S') (fun q => K.2 (Int.not_lt.mp (fun z => q ((i3_lt V2.1 V.1).mpr z))) ad cl H locs ls' S')
    · exact lv_icmp_ge hx hb hd ht (fun q => K.1 ((i3_le V.1 V2.1).mp q) ad cl H locs ls' S') (fun q => K.2 (Int.not_le.mp (fun z => q ((i3_le V.1 V2.1).mpr z))) ad cl H locs ls' S')
    · exact lv_icmp_gt hx hb hd ht (fun q => K.1 ((i3_lt V.1 V2.1).mp q) ad cl H locs ls' S') (fun q => K.2 (Int.not_lt.mp (fun z => q ((i3_lt V.1 V2.1).mpr z))) ad cl H locs ls' S')
    · exact lv_icmp_le hx hb hd ht (fun q => K.1 ((i3_le V2.1 V.1).mp q) ad cl H locs ls' S') (fun q => K.2 (Int.not_le.mp (fun z => q ((i3_le V2.1 V.1).mpr z))) ad cl H locs ls' S')
  · cases hR
theorem so_if {cd : ClassFile.Cond} {t : Int} {x : Int} (X : sm_X p R s m args meth c k D A h0 hF d) (ho : ok_I k pc (.ifCond cd t) nx = true) (K : cm_cmp cd x 0 (sm_J p l e R s m args below meth c k D A ad0 h0 Fin t.toNat ls st h) (sm_J p l e R s m args below meth c k D A ad0 h0 Fin nx ls st h)) : sm_J p l e R s m args below meth c k D A ad0 h0 Fin pc ls (.inl x :: st) h := by
  obtain ⟨raw, len, hd, rfl, hR⟩ := ok_I_inv ho
  obtain ⟨hx, hb, -⟩ := X
  intro ad cl H locs ls' S
  have V := List.forall_mem_cons.mp S.2.2.2.2.2.2.1
  have S' := sS_st S V.2
  dsimp only [ok_R] at hR
  split at hR
  · simp only [Bool.and_eq_true, decide_eq_true_eq] at hR
    obtain ⟨⟨⟨rfl, h2⟩, h3⟩, h4⟩ := hR
    have hl := Nat.eq_of_beq_eq_true h4
    subst hl
    rename_i cd off
    have ht : (pc : Int) + off = ((t.toNat : Nat) : Int) := by omega
    have E : Int32.ofInt x = 0 ↔ x = 0 := by rw [← i3_z]; exact i3_eq V.1 i3_0
    have E1 : Int32.ofInt x < 0 ↔ x < 0 := by rw [← i3_z]; exact i3_lt V.1 i3_0
    have E2 : 0 ≤ Int32.ofInt x ↔ 0 ≤ x := by rw [← i3_z]; exact i3_le i3_0 V.1
    have E3 : 0 < Int32.ofInt x ↔ 0 < x := by rw [← i3_z]; exact i3_lt i3_0 V.1
    have E4 : Int32.ofInt x ≤ 0 ↔ x ≤ 0 := by rw [← i3_z]; exact i3_le V.1 i3_0
    cases cd
    · exact lv_if_eq hx hb hd ht (fun q => K.1 (E.mp q) ad cl H locs ls' S') (fun q => K.2 (fun z => q (E.mpr z)) ad cl H locs ls' S')
    · exact lv_if_ne hx hb hd ht (fun q => K.1 (fun z => q (E.mpr z)) ad cl H locs ls' S') (fun q => K.2 (E.mp q) ad cl H locs ls' S')
    · exact lv_if_lt hx hb hd ht (fun q => K.1 (E1.mp q) ad cl H locs ls' S') (fun q => K.2 (Int.not_lt.mp (fun z => q (E1.mpr z))) ad cl H locs ls' S')
    · exact lv_if_ge hx hb hd ht (fun q => K.1 (E2.mp q) ad cl H locs ls' S') (fun q => K.2 (Int.not_le.mp (fun z => q (E2.mpr z))) ad cl H locs ls' S')
    · exact lv_if_gt hx hb hd ht (fun q => K.1 (E3.mp q) ad cl H locs ls' S') (fun q => K.2 (Int.not_lt.mp (fun z => q (E3.mpr z))) ad cl H locs ls' S')
    · exact lv_if_le hx hb hd ht (fun q => K.1 (E4.mp q) ad cl H locs ls' S') (fun q => K.2 (Int.not_le.mp (fun z => q (E4.mpr z))) ad cl H locs ls' S')
  · cases hR
theorem so_goto {t : Int} (X : sm_X p R s m args meth c k D A h0 hF d) (ho : ok_I k pc (.goto t) nx = true) (K : sm_J p l e R s m args below meth c k D A ad0 h0 Fin t.toNat ls st h) : sm_J p l e R s m args below meth c k D A ad0 h0 Fin pc ls st h := by
  obtain ⟨raw, len, hd, rfl, hR⟩ := ok_I_inv ho
  obtain ⟨hx, hb, -⟩ := X
  intro ad cl H locs ls' S
  dsimp only [ok_R] at hR
  split at hR
  · simp only [Bool.and_eq_true, decide_eq_true_eq] at hR
    obtain ⟨⟨h2, h3⟩, h4⟩ := hR
    have hl := Nat.eq_of_beq_eq_true h4
    subst hl
    exact lv_goto (tgt := t.toNat) hx hb hd (by omega) (K ad cl H locs ls' S)
  · cases hR
/-- where a switch goes -/
def sw_to (x dd : Int) : List (Int × Int) → Int
  | [] => dd
  | (k, t) :: r => if x = k then t else sw_to x dd r
theorem sw_use {x dd : Int} {P : Nat → Prop} : ∀ ps : List (Int × Int), cm_sw x dd P ps → P (sw_to x dd ps).toNat
  | [], h => h
  | (k, t) :: r, h => by
    unfold sw_to
    by_cases e : x = k
    · rw [if_pos e]; exact h.1 e
    · rw [if_neg e]; exact sw_use r (h.2 e)
theorem sw_lookup {x dd : Int} {pc : Nat} : ∀ qs : List (Int × Int), sw_to x ((pc : Int) + dd) (qs.map (fun q => (q.1, (pc : Int) + q.2))) = (pc : Int) + Op.lookupswitch.offset qs dd x
  | [] => rfl
  | (k, t) :: r => by
    show (if x = k then (pc : Int) + t else sw_to x ((pc : Int) + dd) (r.map (fun q => (q.1, (pc : Int) + q.2)))) = _
    rw [sw_lookup r]
    by_cases e : x = k
    · subst e
      rw [if_pos rfl]
      simp [Op.lookupswitch.offset]
    · rw [if_neg e]
      simp [Op.lookupswitch.offset, e, Ne.symm e]
theorem sw_table {x dd lo : Int} {pc : Nat} : ∀ (os : List Int) (i : Nat), sw_to x dd ((os.zipIdx i).map (fun q => (lo + (q.2 : Int), (pc : Int) + q.1))) = if lo + i ≤ x ∧ x < lo + i + os.length then (pc : Int) + os.getD (x - (lo + i)).toNat 0 else dd
  | [], i => by
    rw [if_neg (by simp only [List.length_nil]; omega)]
    rfl
  | o :: r, i => by
    rw [List.zipIdx_cons, List.map_cons]
    show (if x = lo + (i : Int) then (pc : Int) + o else sw_to x dd ((r.zipIdx (i + 1)).map (fun q => (lo + (q.2 : Int), (pc : Int) + q.1)))) = _
    rw [sw_table r (i + 1)]
    by_cases e : x = lo + (i : Int)
    · rw [if_pos e, if_pos (by simp only [List.length_cons]; omega), show (x - (lo + i)).toNat = 0 by omega]
      rfl
    · rw [if_neg e]
      by_cases g : lo + ((i + 1 : Nat) : Int) ≤ x ∧ x < lo + ((i + 1 : Nat) : Int) + r.length
      · rw [if_pos g, if_pos (by simp only [List.length_cons]; omega), show (x - (lo + i)).toNat = (x - (lo + ((i + 1 : Nat) : Int))).toNat + 1 by omega]
        rfl
      · rw [if_neg g, if_neg (by simp only [List.length_cons]; omega)]
theorem so_switch {dd x : Int} {ps : Array (Int × Int)} (X : sm_X p R s m args meth c k D A h0 hF d) (ho : ok_I k pc (.lookupswitch dd ps) nx = true) (K : cm_sw x dd (fun t => sm_J p l e R s m args below meth c k D A ad0 h0 Fin t ls st h) ps.toList) : sm_J p l e R s m args below meth c k D A ad0 h0 Fin pc ls (.inl x :: st) h := by
  obtain ⟨raw, len, hd, rfl, hR⟩ := ok_I_inv ho
  obtain ⟨hx, hb, -⟩ := X
  intro ad cl H locs ls' S
  have V := List.forall_mem_cons.mp S.2.2.2.2.2.2.1
  have S' := sS_st S V.2
  have hxv : (Int32.ofInt x).toInt = x := i3_to V.1
  have G := sw_use _ K ad cl H locs ls' S'
  dsimp only [ok_R] at hR
  simp only [Bool.and_eq_true, decide_eq_true_eq] at hR
  obtain ⟨⟨h0d, h0p⟩, hR⟩ := hR
  have hpos : ∀ qs : List (Int × Int), qs.all (fun q => decide (0 ≤ q.2)) = true → 0 ≤ sw_to x dd qs := by
    intro qs
    induction qs with
    | nil => intro _; exact h0d
    | cons q r ih =>
      intro hq
      simp only [List.all_cons, Bool.and_eq_true, decide_eq_true_eq] at hq
      obtain ⟨k9, t9⟩ := q
      unfold sw_to
      split
      · exact hq.1
      · exact ih hq.2
  have hp := hpos _ h0p
  split at hR
  · simp only [Bool.and_eq_true, decide_eq_true_eq] at hR
    obtain ⟨⟨h1, h2⟩, h3⟩ := hR
    rename_i d2 lo hi offs
    rw [h2, sw_table] at G hp
    by_cases g : lo + ((0 : Nat) : Int) ≤ x ∧ x < lo + ((0 : Nat) : Int) + offs.toList.length
    · rw [if_pos g] at G hp
      have hl : (x - lo).toNat < offs.size := by have := g.2; rw [Array.length_toList] at this; omega
      refine lv_tableIn (off := offs[(x - lo).toNat]) hx hb hd (by rw [hxv]; omega) (by rw [hxv]; have := g.2; rw [Array.length_toList] at this; omega) (by rw [hxv]; exact Array.getElem?_eq_getElem hl) ?_ G
      have e1 : offs.toList.getD (x - (lo + ((0 : Nat) : Int))).toNat 0 = offs[(x - lo).toNat] := by
        rw [show x - (lo + ((0 : Nat) : Int)) = x - lo by omega, List.getD_eq_getElem?_getD, Array.getElem?_toList, Array.getElem?_eq_getElem hl]
        rfl
      rw [e1] at hp ⊢
      omega
    · rw [if_neg g] at G hp
      refine lv_tableOut hx hb hd ?_ ?_ G
      · rw [hxv]
        rw [Array.length_toList] at g
        omega
      · omega
  · simp only [Bool.and_eq_true, decide_eq_true_eq] at hR
    obtain ⟨⟨h1, h2⟩, h3⟩ := hR
    rw [h2, ← h1, sw_lookup] at G hp
    refine lv_lookup hx hb hd h3 rfl ?_ G
    rw [hxv]
    omega
  · cases hR
theorem so_dup {v : cm_V} (X : sm_X p R s m args meth c k D A h0 hF d) (ho : ok_I k pc .dup nx = true) (hk : Nat.beq (cm_cat v) 1 = true) (K : sm_J p l e R s m args below meth c k D A ad0 h0 Fin nx ls (v :: v :: st) h) : sm_J p l e R s m args below meth c k D A ad0 h0 Fin pc ls (v :: st) h := by
  obtain ⟨raw, len, hd, rfl, hR⟩ := ok_I_inv ho
  obtain ⟨hx, hb, -⟩ := X
  intro ad cl H locs ls' S
  have V := List.forall_mem_cons.mp S.2.2.2.2.2.2.1
  dsimp only [ok_R] at hR
  obtain ⟨rfl, rfl⟩ := ok_same hR
  exact lv_dup hx hb hd (by rw [cat_en]; exact Nat.eq_of_beq_eq_true hk) (K ad cl H locs ls' (sS_st S (List.forall_mem_cons.mpr ⟨V.1, List.forall_mem_cons.mpr ⟨V.1, V.2⟩⟩)))
theorem so_dup2 {v w : cm_V} (X : sm_X p R s m args meth c k D A h0 hF d) (ho : ok_I k pc .dup2 nx = true) (hk : (Nat.beq (cm_cat v) 1 && Nat.beq (cm_cat w) 1) = true) (K : sm_J p l e R s m args below meth c k D A ad0 h0 Fin nx ls (v :: w :: v :: w :: st) h) : sm_J p l e R s m args below meth c k D A ad0 h0 Fin pc ls (v :: w :: st) h := by
  obtain ⟨raw, len, hd, rfl, hR⟩ := ok_I_inv ho
  obtain ⟨hx, hb, -⟩ := X
  intro ad cl H locs ls' S
  have V := List.forall_mem_cons.mp S.2.2.2.2.2.2.1
  have V2 := List.forall_mem_cons.mp V.2
  dsimp only [ok_R] at hR
  obtain ⟨rfl, rfl⟩ := ok_same hR
  simp only [Bool.and_eq_true] at hk
  exact lv_dup2_11 hx hb hd (by rw [cat_en]; exact Nat.eq_of_beq_eq_true hk.1) (by rw [cat_en]; exact Nat.eq_of_beq_eq_true hk.2) (K ad cl H locs ls' (sS_st S (List.forall_mem_cons.mpr ⟨V.1, List.forall_mem_cons.mpr ⟨V2.1, S.2.2.2.2.2.2.1⟩⟩)))
theorem so_pop {v : cm_V} (X : sm_X p R s m args meth c k D A h0 hF d) (ho : ok_I k pc .pop nx = true) (hk : Nat.beq (cm_cat v) 1 = true) (K : sm_J p l e R s m args below meth c k D A ad0 h0 Fin nx ls st h) : sm_J p l e R s m args below meth c k D A ad0 h0 Fin pc ls (v :: st) h := by
  obtain ⟨raw, len, hd, rfl, hR⟩ := ok_I_inv ho
  obtain ⟨hx, hb, -⟩ := X
  intro ad cl H locs ls' S
  have V := List.forall_mem_cons.mp S.2.2.2.2.2.2.1
  dsimp only [ok_R] at hR
  obtain ⟨rfl, rfl⟩ := ok_same hR
  exact lv_pop hx hb hd (by rw [cat_en]; exact Nat.eq_of_beq_eq_true hk) (K ad cl H locs ls' (sS_st S V.2))
end SOP
