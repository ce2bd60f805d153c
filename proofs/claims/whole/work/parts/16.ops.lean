/-! SIMULATION of the instructions that leave the heap alone -/
section SOP
variable {p : Program} {l : Launch} {e : Env} {R : Room} {s : State} {m : MethodId} {args : Array Value} {below : List Frame} {meth : Method} {c : Code} {k : Nat} {D : va_G} {A : Nat → Prop} {ad0 : Nat → Nat} {h0 hF : cm_H} {Fin : State → Prop} {d : Nat}
variable {pc nx : Nat} {ls : cm_L} {st t : List cm_V} {h : cm_H}
theorem sS_st {ad : Nat → Nat} {cl : Nat → ClassId} {H : Heap} {locs : List Loc} {ls' : Array Slot} {st' : List cm_V} (S : sm_S s k D A ad0 h0 ad cl H locs ls' ls st h) (hv : ∀ v ∈ st', vok h v) : sm_S s k D A ad0 h0 ad cl H locs ls' ls st' h := by
  obtain ⟨S1, S2, S3, S4, S5, S6, S7, S8⟩ := S
  exact ⟨S1, S2, S3, S4, S5, S6, hv, S8⟩
theorem sS_ls {ad : Nat → Nat} {cl : Nat → ClassId} {H : Heap} {locs : List Loc} {ls' ls2' : Array Slot} {ls2 : cm_L} {st' : List cm_V} (S : sm_S s k D A ad0 h0 ad cl H locs ls' ls st h) (hl : sm_lr ad h k ls2 ls2') (hv : ∀ v ∈ st', vok h v) : sm_S s k D A ad0 h0 ad cl H locs ls2' ls2 st' h := by
  obtain ⟨S1, S2, S3, S4, S5, S6, S7, S8⟩ := S
  exact ⟨S1, S2, S3, S4, S5, hl, hv, S8⟩
theorem so_iconst {v : Int} (X : sm_X p R s m args meth c k D A h0 hF d) (ho : ok_I k pc (.iconst v) nx = true) (hv : cm_i v) (K : sm_J p l e R s m args below meth c k D A ad0 h0 Fin nx ls (.inl v :: st) h) : sm_J p l e R s m args below meth c k D A ad0 h0 Fin pc ls st h := by
  obtain ⟨raw, len, hd, rfl, hR⟩ := ok_I_inv ho
  obtain ⟨hx, hb, hml, hown, hts, -⟩ := X
  intro ad cl H locs ls' S
  have S' : sm_S s k D A ad0 h0 ad cl H locs ls' ls (.inl v :: st) h := sS_st S (List.forall_mem_cons.mpr ⟨hv, S.2.2.2.2.2.2.1⟩)
  have G := K ad cl H locs ls' S'
  dsimp only [ok_R] at hR
  split at hR
  · simp only [Bool.and_eq_true, decide_eq_true_eq] at hR
    have hl := Nat.eq_of_beq_eq_true hR.2
    subst hl
    exact lv_iconst hx hb hd hR.1 G
  · simp only [Bool.and_eq_true, decide_eq_true_eq] at hR
    have hl := Nat.eq_of_beq_eq_true hR.2
    subst hl
    exact lv_bipush hx hb hd hR.1 G
  · simp only [Bool.and_eq_true, decide_eq_true_eq] at hR
    have hl := Nat.eq_of_beq_eq_true hR.2
    subst hl
    exact lv_sipush hx hb hd hR.1 G
  · simp only [Bool.and_eq_true] at hR
    obtain ⟨⟨h1, h2⟩, h3⟩ := hR
    have hl := Nat.eq_of_beq_eq_true h3
    subst hl
    obtain ⟨q, hq, hq2⟩ := List.any_eq_true.mp h1
    simp only [Bool.and_eq_true, decide_eq_true_eq] at hq2
    have e1 := Nat.eq_of_beq_eq_true hq2.1
    have hi := Nat.le_of_ble_eq_true h2
    have hw := hts _ (lk_ld hq)
    rw [e1, show (sm_ow k * 1000 + _) / 1000 = sm_ow k by omega, show (sm_ow k * 1000 + _) % 1000 = _ from by rw [Nat.mul_add_mod_self_right, Nat.mod_eq_of_lt (by omega)], hq2.2] at hw
    exact lv_ldc hx hb hown hw hd G
  · cases hR
theorem so_lconst {v : Int} (X : sm_X p R s m args meth c k D A h0 hF d) (ho : ok_I k pc (.goto_w v) nx = true) (hv : cm_l v) (K : sm_J p l e R s m args below meth c k D A ad0 h0 Fin nx ls (.inr (.inr v) :: st) h) : sm_J p l e R s m args below meth c k D A ad0 h0 Fin pc ls st h := by
  obtain ⟨raw, len, hd, rfl, hR⟩ := ok_I_inv ho
  obtain ⟨hx, hb, hml, hown, hts, -⟩ := X
  intro ad cl H locs ls' S
  have S' : sm_S s k D A ad0 h0 ad cl H locs ls' ls (.inr (.inr v) :: st) h := sS_st S (List.forall_mem_cons.mpr ⟨hv, S.2.2.2.2.2.2.1⟩)
  have G := K ad cl H locs ls' S'
  dsimp only [ok_R] at hR
  split at hR
  · simp only [Bool.and_eq_true, decide_eq_true_eq] at hR
    have hl := Nat.eq_of_beq_eq_true hR.2
    subst hl
    exact lv_lconst hx hb hd hR.1 G
  · simp only [Bool.and_eq_true] at hR
    obtain ⟨⟨h1, h2⟩, h3⟩ := hR
    have hl := Nat.eq_of_beq_eq_true h3
    subst hl
    obtain ⟨q, hq, hq2⟩ := List.any_eq_true.mp h1
    simp only [Bool.and_eq_true, decide_eq_true_eq] at hq2
    have e1 := Nat.eq_of_beq_eq_true hq2.1
    have hi := Nat.le_of_ble_eq_true h2
    have hw := hts _ (lk_ll hq)
    rw [e1, show (sm_ow k * 1000 + _) / 1000 = sm_ow k by omega, show (sm_ow k * 1000 + _) % 1000 = _ from by rw [Nat.mul_add_mod_self_right, Nat.mod_eq_of_lt (by omega)], hq2.2] at hw
    exact lv_ldc2 hx hb hown hw hd G
  · cases hR
theorem so_iload {i : Nat} {v : Int} (X : sm_X p R s m args meth c k D A h0 hF d) (ho : ok_I k pc (.iload i) nx = true) (hg : cm_get ls i = some (.inl v)) (K : sm_J p l e R s m args below meth c k D A ad0 h0 Fin nx ls (.inl v :: st) h) : sm_J p l e R s m args below meth c k D A ad0 h0 Fin pc ls st h := by
  obtain ⟨raw, len, hd, rfl, hR⟩ := ok_I_inv ho
  obtain ⟨hx, hb, -⟩ := X
  intro ad cl H locs ls' S
  have L := S.2.2.2.2.2.1
  have G := K ad cl H locs ls' (sS_st S (List.forall_mem_cons.mpr ⟨L.2.1 i _ hg, S.2.2.2.2.2.2.1⟩))
  dsimp only [ok_R] at hR
  split at hR
  · simp only [Bool.and_eq_true, decide_eq_true_eq] at hR
    have hl := Nat.eq_of_beq_eq_true hR.2
    subst hl
    exact lv_iload_n hx hb hd hR.1 (lr_at L hg) G
  · simp only [Bool.and_eq_true] at hR
    have hl := Nat.eq_of_beq_eq_true hR.2
    have hj := Nat.eq_of_beq_eq_true hR.1
    subst hl; subst hj
    exact lv_iload hx hb hd (lr_at L hg) G
  · cases hR
theorem so_lload {i : Nat} {v : Int} (X : sm_X p R s m args meth c k D A h0 hF d) (ho : ok_I k pc (.lload i) nx = true) (hg : cm_get ls i = some (.inr (.inr v))) (K : sm_J p l e R s m args below meth c k D A ad0 h0 Fin nx ls (.inr (.inr v) :: st) h) : sm_J p l e R s m args below meth c k D A ad0 h0 Fin pc ls st h := by
  obtain ⟨raw, len, hd, rfl, hR⟩ := ok_I_inv ho
  obtain ⟨hx, hb, -⟩ := X
  intro ad cl H locs ls' S
  have L := S.2.2.2.2.2.1
  have G := K ad cl H locs ls' (sS_st S (List.forall_mem_cons.mpr ⟨L.2.1 i _ hg, S.2.2.2.2.2.2.1⟩))
  dsimp only [ok_R] at hR
  split at hR
  · simp only [Bool.and_eq_true, decide_eq_true_eq] at hR
    have hl := Nat.eq_of_beq_eq_true hR.2
    subst hl
    exact lv_lload_n hx hb hd hR.1 (lr_at L hg) G
  · simp only [Bool.and_eq_true] at hR
    have hl := Nat.eq_of_beq_eq_true hR.2
    have hj := Nat.eq_of_beq_eq_true hR.1
    subst hl; subst hj
    exact lv_lload hx hb hd (lr_at L hg) G
  · cases hR
theorem so_aload {i cc a : Nat} (X : sm_X p R s m args meth c k D A h0 hF d) (ho : ok_I k pc (.aload i) nx = true) (hg : cm_get ls i = some (.inr (.inl (cc, a)))) (K : sm_J p l e R s m args below meth c k D A ad0 h0 Fin nx ls (.inr (.inl (cc, a)) :: st) h) : sm_J p l e R s m args below meth c k D A ad0 h0 Fin pc ls st h := by
  obtain ⟨raw, len, hd, rfl, hR⟩ := ok_I_inv ho
  obtain ⟨hx, hb, -⟩ := X
  intro ad cl H locs ls' S
  have L := S.2.2.2.2.2.1
  have G := K ad cl H locs ls' (sS_st S (List.forall_mem_cons.mpr ⟨L.2.1 i _ hg, S.2.2.2.2.2.2.1⟩))
  have hat := lr_at L hg
  by_cases ha : a = 0
  · subst ha
    have e1 : en_V ad (.inr (.inl (cc, 0))) = .null := rfl
    rw [e1] at hat
    rw [List.map_cons, e1] at G
    dsimp only [ok_R] at hR
    split at hR
    · simp only [Bool.and_eq_true, decide_eq_true_eq] at hR
      have hl := Nat.eq_of_beq_eq_true hR.2
      subst hl
      exact lv_aload_nN hx hb hd hR.1 hat G
    · simp only [Bool.and_eq_true] at hR
      have hl := Nat.eq_of_beq_eq_true hR.2
      have hj := Nat.eq_of_beq_eq_true hR.1
      subst hl; subst hj
      exact lv_aloadN hx hb hd hat G
    · cases hR
  · have e1 : en_V ad (.inr (.inl (cc, a))) = .ref (ad a) := by
      show va_rf (en_R ad a) = _
      unfold en_R
      rw [if_neg ha]
      rfl
    rw [e1] at hat
    rw [List.map_cons, e1] at G
    dsimp only [ok_R] at hR
    split at hR
    · simp only [Bool.and_eq_true, decide_eq_true_eq] at hR
      have hl := Nat.eq_of_beq_eq_true hR.2
      subst hl
      exact lv_aload_n hx hb hd hR.1 hat G
    · simp only [Bool.and_eq_true] at hR
      have hl := Nat.eq_of_beq_eq_true hR.2
      have hj := Nat.eq_of_beq_eq_true hR.1
      subst hl; subst hj
      exact lv_aload hx hb hd hat G
    · cases hR
theorem so_istore {i : Nat} {v : Int} (X : sm_X p R s m args meth c k D A h0 hF d) (ho : ok_I k pc (.istore i) nx = true) (K : sm_J p l e R s m args below meth c k D A ad0 h0 Fin nx (ls.set i (some (.inl v))) st h) : sm_J p l e R s m args below meth c k D A ad0 h0 Fin pc ls (.inl v :: st) h := by
  obtain ⟨raw, len, hd, rfl, hR⟩ := ok_I_inv ho
  obtain ⟨hx, hb, -⟩ := X
  intro ad cl H locs ls' S
  have L := S.2.2.2.2.2.1
  have V := List.forall_mem_cons.mp S.2.2.2.2.2.2.1
  dsimp only [ok_R] at hR
  simp only [Bool.and_eq_true] at hR
  obtain ⟨hO, hR⟩ := hR
  have hi : i < cm_maxL k := by
    unfold ok_l at hO
    simp only [Bool.and_eq_true] at hO
    exact Nat.le_of_ble_eq_true hO.1
  split at hR
  · simp only [Bool.and_eq_true, decide_eq_true_eq] at hR
    have hl := Nat.eq_of_beq_eq_true hR.2
    subst hl
    exact lv_istore_n hx hb hd hR.1 L.1 hi rfl (fun ls2 h2 => K ad cl H locs ls2 (sS_ls S (lr_store1 L hO V.1 rfl h2) V.2))
  · simp only [Bool.and_eq_true] at hR
    have hl := Nat.eq_of_beq_eq_true hR.2
    have hj := Nat.eq_of_beq_eq_true hR.1
    subst hl; subst hj
    exact lv_istore hx hb hd L.1 hi rfl (fun ls2 h2 => K ad cl H locs ls2 (sS_ls S (lr_store1 L hO V.1 rfl h2) V.2))
  · cases hR
theorem so_astore {i cc a : Nat} (X : sm_X p R s m args meth c k D A h0 hF d) (ho : ok_I k pc (.astore i) nx = true) (K : sm_J p l e R s m args below meth c k D A ad0 h0 Fin nx (ls.set i (some (.inr (.inl (cc, a))))) st h) : sm_J p l e R s m args below meth c k D A ad0 h0 Fin pc ls (.inr (.inl (cc, a)) :: st) h := by
  obtain ⟨raw, len, hd, rfl, hR⟩ := ok_I_inv ho
  obtain ⟨hx, hb, -⟩ := X
  intro ad cl H locs ls' S
  have L := S.2.2.2.2.2.1
  have V := List.forall_mem_cons.mp S.2.2.2.2.2.2.1
  dsimp only [ok_R] at hR
  simp only [Bool.and_eq_true] at hR
  obtain ⟨hO, hR⟩ := hR
  have hi : i < cm_maxL k := by
    unfold ok_l at hO
    simp only [Bool.and_eq_true] at hO
    exact Nat.le_of_ble_eq_true hO.1
  rw [List.map_cons]
  by_cases ha : a = 0
  · subst ha
    have e1 : en_V ad (.inr (.inl (cc, 0))) = .null := rfl
    split at hR
    · simp only [Bool.and_eq_true, decide_eq_true_eq] at hR
      have hl := Nat.eq_of_beq_eq_true hR.2
      subst hl
      exact lv_astore_nN hx hb hd hR.1 L.1 hi rfl (fun ls2 h2 => K ad cl H locs ls2 (sS_ls S (lr_store1 L hO V.1 rfl h2) V.2))
    · simp only [Bool.and_eq_true] at hR
      have hl := Nat.eq_of_beq_eq_true hR.2
      have hj := Nat.eq_of_beq_eq_true hR.1
      subst hl; subst hj
      exact lv_astoreN hx hb hd L.1 hi rfl (fun ls2 h2 => K ad cl H locs ls2 (sS_ls S (lr_store1 L hO V.1 rfl h2) V.2))
    · cases hR
  · have e1 : en_V ad (.inr (.inl (cc, a))) = .ref (ad a) := by
      show va_rf (en_R ad a) = _
      unfold en_R
      rw [if_neg ha]
      rfl
    rw [e1]
    split at hR
    · simp only [Bool.and_eq_true, decide_eq_true_eq] at hR
      have hl := Nat.eq_of_beq_eq_true hR.2
      subst hl
      exact lv_astore_n hx hb hd hR.1 L.1 hi rfl (fun ls2 h2 => K ad cl H locs ls2 (sS_ls S (lr_store1 L hO V.1 rfl (by rw [e1]; exact h2)) V.2))
    · simp only [Bool.and_eq_true] at hR
      have hl := Nat.eq_of_beq_eq_true hR.2
      have hj := Nat.eq_of_beq_eq_true hR.1
      subst hl; subst hj
      exact lv_astore hx hb hd L.1 hi rfl (fun ls2 h2 => K ad cl H locs ls2 (sS_ls S (lr_store1 L hO V.1 rfl (by rw [e1]; exact h2)) V.2))
    · cases hR
theorem so_lstore {i : Nat} {v : Int} (X : sm_X p R s m args meth c k D A h0 hF d) (ho : ok_I k pc (.lstore i) nx = true) (K : sm_J p l e R s m args below meth c k D A ad0 h0 Fin nx ((ls.set i (some (.inr (.inr v)))).set (i + 1) none) st h) : sm_J p l e R s m args below meth c k D A ad0 h0 Fin pc ls (.inr (.inr v) :: st) h := by
  obtain ⟨raw, len, hd, rfl, hR⟩ := ok_I_inv ho
  obtain ⟨hx, hb, -⟩ := X
  intro ad cl H locs ls' S
  have L := S.2.2.2.2.2.1
  have V := List.forall_mem_cons.mp S.2.2.2.2.2.2.1
  dsimp only [ok_R] at hR
  simp only [Bool.and_eq_true] at hR
  obtain ⟨⟨⟨hO, hi⟩, hC⟩, hR⟩ := hR
  have hi := Nat.le_of_ble_eq_true hi
  have hC : i ∈ sm_LI k := List.contains_iff_mem.mp hC
  split at hR
  · simp only [Bool.and_eq_true, decide_eq_true_eq] at hR
    have hl := Nat.eq_of_beq_eq_true hR.2
    subst hl
    exact lv_lstore_n hx hb hd hR.1 L.1 (by omega) rfl (fun ls2 h2 => K ad cl H locs ls2 (sS_ls S (lr_store2 L hO hC V.1 h2) V.2))
  · simp only [Bool.and_eq_true] at hR
    have hl := Nat.eq_of_beq_eq_true hR.2
    have hj := Nat.eq_of_beq_eq_true hR.1
    subst hl; subst hj
    exact lv_lstore hx hb hd L.1 (by omega) rfl (fun ls2 h2 => K ad cl H locs ls2 (sS_ls S (lr_store2 L hO hC V.1 h2) V.2))
  · cases hR
theorem so_iinc {i : Nat} {n v : Int} (X : sm_X p R s m args meth c k D A h0 hF d) (ho : ok_I k pc (.iinc i n) nx = true) (hg : cm_get ls i = some (.inl v)) (hv : cm_i (v + n)) (K : sm_J p l e R s m args below meth c k D A ad0 h0 Fin nx (ls.set i (some (.inl (v + n)))) st h) : sm_J p l e R s m args below meth c k D A ad0 h0 Fin pc ls st h := by
  obtain ⟨raw, len, hd, rfl, hR⟩ := ok_I_inv ho
  obtain ⟨hx, hb, -⟩ := X
  intro ad cl H locs ls' S
  have L := S.2.2.2.2.2.1
  dsimp only [ok_R] at hR
  simp only [Bool.and_eq_true, decide_eq_true_eq] at hR
  obtain ⟨⟨hO, hr⟩, hl⟩ := hR
  have hl := Nat.eq_of_beq_eq_true hl
  subst hl; subst hr
  have hi : i < cm_maxL k := by
    unfold ok_l at hO
    simp only [Bool.and_eq_true] at hO
    exact Nat.le_of_ble_eq_true hO.1
  obtain ⟨q, hq⟩ := List.getElem?_of_mem (lv_of_mem (ad := ad) hg)
  exact lv_iinc hx hb hd L.1 hq (Int32.ofInt_add v n).symm hi rfl (fun ls2 h2 => K ad cl H locs ls2 (sS_ls S (lr_store1 (v := .inl (v + n)) L hO hv rfl h2) S.2.2.2.2.2.2.1))
end SOP
