/-! SIMULATION of fields -/
theorem vw_at {c : Nat} (hc : c < 13) : vwCl[c]? = some (sm_cn c, sm_T c, sm_fn c) := by
  match c, hc with
  | 0, _ => rfl
  | 1, _ => rfl
  | 2, _ => rfl
  | 3, _ => rfl
  | 4, _ => rfl
  | 5, _ => rfl
  | 6, _ => rfl
  | 7, _ => rfl
  | 8, _ => rfl
  | 9, _ => rfl
  | 10, _ => rfl
  | 11, _ => rfl
  | 12, _ => rfl
theorem tk_f {c : Nat} (hc : c < 13) : ∀ w ∈ u_ws (sm_cn c) (sm_T c) (sm_fn c), w ∈ tbG := by
  match c, hc with
  | 0, _ => exact tk_f0
  | 1, _ => exact tk_f1
  | 2, _ => exact tk_f2
  | 3, _ => exact tk_f3
  | 4, _ => exact tk_f4
  | 5, _ => exact tk_f5
  | 6, _ => exact tk_f6
  | 7, _ => exact tk_f7
  | 8, _ => exact tk_f8
  | 9, _ => exact tk_f9
  | 10, _ => exact tk_f10
  | 11, _ => exact tk_f11
  | 12, _ => exact tk_f12
def sm_tf : Nat → Nat → FieldType := fun c => bif Nat.beq c 0 then tyX0 else bif Nat.beq c 1 then tyX1 else bif Nat.beq c 2 then tyX2 else bif Nat.beq c 3 then tyX3 else bif Nat.beq c 4 then tyX4 else bif Nat.beq c 5 then tyX5 else bif Nat.beq c 6 then tyX6 else bif Nat.beq c 7 then tyX7 else bif Nat.beq c 8 then tyX8 else bif Nat.beq c 9 then tyX9 else bif Nat.beq c 10 then tyX10 else bif Nat.beq c 11 then tyX11 else tyX12
theorem tf_ok {c : Nat} (hc : c < 13) : ∀ j, j < sm_fn c → parseFieldDescriptor (sm_T c j).2.2.1 = some (sm_tf c j) := by
  match c, hc with
  | 0, _ => exact tyX0_ok
  | 1, _ => exact tyX1_ok
  | 2, _ => exact tyX2_ok
  | 3, _ => exact tyX3_ok
  | 4, _ => exact tyX4_ok
  | 5, _ => exact tyX5_ok
  | 6, _ => exact tyX6_ok
  | 7, _ => exact tyX7_ok
  | 8, _ => exact tyX8_ok
  | 9, _ => exact tyX9_ok
  | 10, _ => exact tyX10_ok
  | 11, _ => exact tyX11_ok
  | 12, _ => exact tyX12_ok
theorem tf_nm {c : Nat} (hc : c < 13) : ∀ a, a < sm_fn c → ∀ b, b < sm_fn c → a ≠ b → (sm_T c a).2.1 ≠ (sm_T c b).2.1 := by
  match c, hc with
  | 0, _ => exact nmX0
  | 1, _ => exact nmX1
  | 2, _ => exact nmX2
  | 3, _ => exact nmX3
  | 4, _ => exact nmX4
  | 5, _ => exact nmX5
  | 6, _ => exact nmX6
  | 7, _ => exact nmX7
  | 8, _ => exact nmX8
  | 9, _ => exact nmX9
  | 10, _ => exact nmX10
  | 11, _ => exact nmX11
  | 12, _ => exact nmX12
def isRf (t : FieldType) : Bool := match t with
  | .object _ => true
  | .array _ => true
  | _ => false
set_option maxRecDepth 100000 in
theorem tf_all : (List.range 13).all (fun c => (List.range (sm_fn c)).all (fun j => (match sm_fk c j with
  | some _ => isRf (sm_tf c j)
  | none => bif sm_fz c j then decide (sm_tf c j = .boolean) else decide (sm_tf c j = .int)) && decide ((sm_T c j).2.2.2 = sm_ff c j) && decide ((sm_T c j).1 = sm_cn c))) = true := by decide +kernel
theorem tf_one {c j : Nat} (hc : c < 13) (hj : j < sm_fn c) : (match sm_fk c j with
  | some _ => isRf (sm_tf c j) = true
  | none => (sm_fz c j = true → sm_tf c j = .boolean) ∧ (sm_fz c j = false → sm_tf c j = .int)) ∧ (sm_T c j).2.2.2 = sm_ff c j ∧ (sm_T c j).1 = sm_cn c := by
  have h := List.all_eq_true.mp (List.all_eq_true.mp tf_all c (List.mem_range.mpr hc)) j (List.mem_range.mpr hj)
  simp only [Bool.and_eq_true, decide_eq_true_eq] at h
  refine ⟨?_, h.1.2, h.2⟩
  have h1 := h.1.1
  cases hf : sm_fk c j with
  | some z => rw [hf] at h1; exact h1
  | none =>
    rw [hf] at h1
    cases hz : sm_fz c j with
    | true => rw [hz] at h1; simp at h1; exact ⟨fun _ => h1, fun q => by cases q⟩
    | false => rw [hz] at h1; simp at h1; exact ⟨fun q => (by cases q), fun _ => h1⟩
theorem key_inv {e own idx : Nat} (h : Nat.beq e (own * 1000 + idx) = true) (hi : Nat.blt idx 1000 = true) : e / 1000 = own ∧ e % 1000 = idx := by
  have h1 := Nat.eq_of_beq_eq_true h
  have h2 : idx < 1000 := Nat.le_of_ble_eq_true hi
  omega
section SOF
variable {p : Program} {l : Launch} {e : Env} {R : Room} {s : State} {m : MethodId} {args : Array Value} {below : List Frame} {meth : Method} {c : Code} {k : Nat} {D : va_G} {A : Nat → Prop} {ad0 : Nat → Nat} {h0 hF : cm_H} {Fin : State → Prop} {d : Nat}
variable {pc nx : Nat} {ls : cm_L} {st t : List cm_V} {h : cm_H}
theorem en_ref {ad : Nat → Nat} {cc a : Nat} (ha : 0 < a) : en_V ad (.inr (.inl (cc, a))) = .ref (ad a) := by
  show va_rf (en_R ad a) = _
  unfold en_R
  rw [if_neg (by omega)]
  rfl
theorem vok_in {cc a : Nat} (hv : vok h (.inr (.inl (cc, a)))) (ha : 0 < a) : a < ch_n h ∧ ch_T h a = cc := by
  rcases hv with q | q
  · have : a = 0 := q
    omega
  · exact q
theorem so_gf {w a idx : Nat} {v : Value} {ad : Nat → Nat} {cl : Nat → ClassId} {H : Heap} {locs : List Loc} {ls' : Array Slot} {cells slots : Nat} {rest : List Value} (X : sm_X p R s m args meth c k D A h0 hF d) (hd : decode (sm_b k) pc = .ok (.getfield idx, 3)) (hf : ok_f (sm_ow k) idx w = true) (hi : Nat.blt idx 1000 = true) (hc : w / 100 < 13) (hj : w % 100 < sm_fn (w / 100)) (hP : va_P D vwCl (sm_ws ad cl h) H) (hT : ch_T h a = w / 100) (h0a : 0 < a) (hna : a < ch_n h) (hv : en_f ad h (w / 100) a (w % 100) = v)
    (kk : W p l e R s m args below meth c H locs cells slots Fin (F0 m (pc + 3) ls' (v :: rest))) : W p l e R s m args below meth c H locs cells slots Fin (F0 m pc ls' (.ref (ad a) :: rest)) := by
  obtain ⟨hx, hb, hml, hown, hts, -, -, -, hK, hnest, -⟩ := X
  have hg : (sm_ws ad cl h)[a - 1]? = some (ad a, .inr (w / 100, en_F ad h (w / 100) a)) := by rw [sm_get h0a hna, en_C_obj hT hc]
  have hF := en_F_get (ad := ad) (h := h) (a := a) hj
  rw [hv] at hF
  obtain ⟨-, -, h1⟩ := tf_one hc hj
  have hsame : ∀ x, s.fieldFound? (sm_T (w / 100) (w % 100)).1 (sm_T (w / 100) (w % 100)).2.1 (sm_T (w / 100) (w % 100)).2.2.1 = some x → s.fieldFound? (sm_cn (w / 100)) (sm_T (w / 100) (w % 100)).2.1 (sm_T (w / 100) (w % 100)).2.2.1 = some x := fun x hx => by rw [h1] at hx; exact hx
  unfold ok_f at hf
  rw [Bool.or_eq_true] at hf
  rcases hf with hf | hf
  · obtain ⟨q, hq, hq2⟩ := List.any_eq_true.mp hf
    rw [Bool.and_eq_true] at hq2
    obtain ⟨k1, k2⟩ := key_inv hq2.1 hi
    have k3 := Nat.eq_of_beq_eq_true hq2.2
    have hw := hts _ (lk_f hq)
    rw [k1, k2, k3] at hw
    exact va_get hx hb hts (tk_f hc) hown hK hP (a - 1) hg (vw_at hc) (w % 100) hj hw hsame hF hd kk
  · obtain ⟨q, hq, hq2⟩ := List.any_eq_true.mp hf
    rw [Bool.and_eq_true] at hq2
    obtain ⟨k1, k2⟩ := key_inv hq2.1 hi
    have k3 := Nat.eq_of_beq_eq_true hq2.2
    have hw : va_Nw (.fieldLinkNest (sm_cn (q.1 / 1000)) (q.1 % 1000) (sm_cn (q.2 / 100)) (sm_T (q.2 / 100) (q.2 % 100)).2.1 (sm_T (q.2 / 100) (q.2 % 100)).2.2.1 RX11) s := hnest _ (List.mem_append_left _ (List.mem_map.mpr ⟨q, hq, rfl⟩))
    rw [k1, k2, k3] at hw
    exact va_getN hx hb hts (tk_f hc) hown hK hP (a - 1) hg (vw_at hc) (w % 100) hj (va_Nw.use rfl hw) hsame hF hd kk
theorem so_pf {w a idx : Nat} {v : Value} {ad : Nat → Nat} {cl : Nat → ClassId} {H : Heap} {locs : List Loc} {ls' : Array Slot} {cells slots : Nat} {rest : List Value} (X : sm_X p R s m args meth c k D A h0 hF d) (hd : decode (sm_b k) pc = .ok (.putfield idx, 3)) (hf : ok_f (sm_ow k) idx w = true) (hi : Nat.blt idx 1000 = true) (hc : w / 100 < 13) (hj : w % 100 < sm_fn (w / 100)) (how : ok_w k (w / 100) (w % 100) = true) (hP : va_P D vwCl (sm_ws ad cl h) H) (hD : va_D A (sm_ws ad cl h)) (hS : va_S A s.heap H locs) (hT : ch_T h a = w / 100) (h0a : 0 < a) (hna : a < ch_n h) (hn : narrow (sm_tf (w / 100) (w % 100)) v = v) (hfit : fits (sm_tf (w / 100) (w % 100)) v = true)
    (kk : ∀ (H1 : Heap) (locs1 : List Loc), va_P D vwCl ((sm_ws ad cl h).set (a - 1) (ad a, .inr (w / 100, (en_F ad h (w / 100) a).set (w % 100) v))) H1 → va_D A ((sm_ws ad cl h).set (a - 1) (ad a, .inr (w / 100, (en_F ad h (w / 100) a).set (w % 100) v))) → va_S A s.heap H1 locs1 → W p l e R s m args below meth c H1 locs1 cells slots Fin (F0 m (pc + 3) ls' rest)) : W p l e R s m args below meth c H locs cells slots Fin (F0 m pc ls' (v :: .ref (ad a) :: rest)) := by
  obtain ⟨hx, hb, hml, hown, hts, -, -, hin, hK, hnest, -⟩ := X
  have hg : (sm_ws ad cl h)[a - 1]? = some (ad a, .inr (w / 100, en_F ad h (w / 100) a)) := by rw [sm_get h0a hna, en_C_obj hT hc]
  obtain ⟨-, h2, h1⟩ := tf_one hc hj
  have hsame : ∀ x, s.fieldFound? (sm_T (w / 100) (w % 100)).1 (sm_T (w / 100) (w % 100)).2.1 (sm_T (w / 100) (w % 100)).2.2.1 = some x → s.fieldFound? (sm_cn (w / 100)) (sm_T (w / 100) (w % 100)).2.1 (sm_T (w / 100) (w % 100)).2.2.1 = some x := fun x hx => by rw [h1] at hx; exact hx
  have hlen : w % 100 < (en_F ad h (w / 100) a).length := by rw [en_F_len]; exact hj
  unfold ok_f at hf
  rw [Bool.or_eq_true] at hf
  unfold ok_w at how
  cases hff : sm_ff (w / 100) (w % 100) with
  | false =>
    rw [hff] at h2
    rcases hf with hf | hf
    · obtain ⟨q, hq, hq2⟩ := List.any_eq_true.mp hf
      rw [Bool.and_eq_true] at hq2
      obtain ⟨k1, k2⟩ := key_inv hq2.1 hi
      have k3 := Nat.eq_of_beq_eq_true hq2.2
      have hw := hts _ (lk_f hq)
      rw [k1, k2, k3] at hw
      exact va_put hx hb hts (tk_f hc) (sm_tf (w / 100)) (tf_ok hc) (tf_nm hc) hown hK hP hD hS (a - 1) hg (vw_at hc) (w % 100) hj hw hsame h2 (tf_ok hc _ hj) hn hfit hlen hd kk
    · obtain ⟨q, hq, hq2⟩ := List.any_eq_true.mp hf
      rw [Bool.and_eq_true] at hq2
      obtain ⟨k1, k2⟩ := key_inv hq2.1 hi
      have k3 := Nat.eq_of_beq_eq_true hq2.2
      have hw : va_Nw (.fieldLinkNest (sm_cn (q.1 / 1000)) (q.1 % 1000) (sm_cn (q.2 / 100)) (sm_T (q.2 / 100) (q.2 % 100)).2.1 (sm_T (q.2 / 100) (q.2 % 100)).2.2.1 RX11) s := hnest _ (List.mem_append_left _ (List.mem_map.mpr ⟨q, hq, rfl⟩))
      rw [k1, k2, k3] at hw
      exact va_putN hx hb hts (tk_f hc) (sm_tf (w / 100)) (tf_ok hc) (tf_nm hc) hown hK hP hD hS (a - 1) hg (vw_at hc) (w % 100) hj (va_Nw.use rfl hw) hsame h2 (tf_ok hc _ hj) hn hfit hlen hd kk
  | true =>
    rw [hff] at h2 how
    simp only [Bool.not_true, Bool.false_or, Bool.and_eq_true] at how
    have hoc := Nat.eq_of_beq_eq_true how.2
    rcases hf with hf | hf
    · obtain ⟨q, hq, hq2⟩ := List.any_eq_true.mp hf
      rw [Bool.and_eq_true] at hq2
      obtain ⟨k1, k2⟩ := key_inv hq2.1 hi
      have k3 := Nat.eq_of_beq_eq_true hq2.2
      have hw := hts _ (lk_f hq)
      rw [k1, k2, k3] at hw
      exact va_putF hx hb hts (tk_f hc) (sm_tf (w / 100)) (tf_ok hc) (tf_nm hc) hown hK hP hD hS (a - 1) hg (vw_at hc) (w % 100) hj hw hsame h2 (hin how.1) (by rw [h1, hoc]) (tf_ok hc _ hj) hn hfit hlen hd kk
    · obtain ⟨q, hq, hq2⟩ := List.any_eq_true.mp hf
      rw [Bool.and_eq_true] at hq2
      have k3 := Nat.eq_of_beq_eq_true hq2.2
      have : sm_fnL.all (fun e => !sm_ff (e.2 / 100) (e.2 % 100)) = true := by decide +kernel
      have := List.all_eq_true.mp this q hq
      rw [k3, hff] at this
      cases this
theorem so_getI {w cc a : Nat} (X : sm_X p R s m args meth c k D A h0 hF d) (ho : ok_I k pc (.getfield w) nx = true) (hk : Nat.beq cc (w / 100) = true) (ha : 0 < a) (K : sm_J p l e R s m args below meth c k D A ad0 h0 Fin nx ls (.inl (ch_I h a (w % 100 : Nat)) :: st) h) : sm_J p l e R s m args below meth c k D A ad0 h0 Fin pc ls (.inr (.inl (cc, a)) :: st) h := by
  obtain ⟨raw, len, hd, rfl, hR⟩ := ok_I_inv ho
  intro ad cl H locs ls' S
  have V := List.forall_mem_cons.mp S.2.2.2.2.2.2.1
  have hcc := Nat.eq_of_beq_eq_true hk
  subst hcc
  obtain ⟨hna, hT⟩ := vok_in V.1 ha
  have G := K ad cl H locs ls' (sS_st S (List.forall_mem_cons.mpr ⟨S.2.2.2.1.2.1 a _, V.2⟩))
  dsimp only [ok_R] at hR
  rw [Bool.and_eq_true] at hR
  obtain ⟨hs, hR⟩ := hR
  unfold ok_s at hs
  simp only [Bool.and_eq_true] at hs
  obtain ⟨⟨s1, s2⟩, s3⟩ := hs
  rw [List.map_cons, en_ref ha]
  split at hR
  · simp only [Bool.and_eq_true] at hR
    obtain ⟨⟨r1, r2⟩, r3⟩ := hR
    have hl := Nat.eq_of_beq_eq_true r3
    subst hl
    refine so_gf X hd r1 r2 (Nat.le_of_ble_eq_true s1) (Nat.le_of_ble_eq_true s2) S.1 hT ha hna ?_ G
    unfold en_f
    rw [Option.isNone_iff_eq_none.mp s3]
    rfl
  · cases hR
theorem so_getR {w cc a : Nat} (X : sm_X p R s m args meth c k D A h0 hF d) (ho : ok_I k pc (.getstatic w) nx = true) (hk : Nat.beq cc (w / 10000) = true) (ha : 0 < a) (K : sm_J p l e R s m args below meth c k D A ad0 h0 Fin nx ls (.inr (.inl (w % 100, ch_R h a (w / 100 % 100 : Nat))) :: st) h) : sm_J p l e R s m args below meth c k D A ad0 h0 Fin pc ls (.inr (.inl (cc, a)) :: st) h := by
  obtain ⟨raw, len, hd, rfl, hR⟩ := ok_I_inv ho
  intro ad cl H locs ls' S
  have V := List.forall_mem_cons.mp S.2.2.2.2.2.2.1
  have hcc := Nat.eq_of_beq_eq_true hk
  subst hcc
  obtain ⟨hna, hT⟩ := vok_in V.1 ha
  have hw1 : w / 10000 = w / 100 / 100 := by omega
  rw [hw1] at hT
  dsimp only [ok_R] at hR
  rw [Bool.and_eq_true] at hR
  obtain ⟨hs, hR⟩ := hR
  unfold ok_sr at hs
  simp only [Bool.and_eq_true, decide_eq_true_eq] at hs
  obtain ⟨⟨s1, s2⟩, s3⟩ := hs
  have s1 : w / 100 / 100 < 13 := Nat.le_of_ble_eq_true s1
  have O := S.2.2.2.1
  have hvok : vok h (.inr (.inl (w % 100, ch_R h a ((w / 100 % 100 : Nat) : Int)))) := by
    rcases O.2.2.2.2.2.1 a ha hna (by rw [hT]; exact s1) (w / 100 % 100) (w % 100) (by rw [hT]; exact s3) with q | q
    · exact Or.inl q
    · exact Or.inr ⟨O.2.2.1 a _, q⟩
  have G := K ad cl H locs ls' (sS_st S (List.forall_mem_cons.mpr ⟨hvok, V.2⟩))
  rw [List.map_cons, en_ref ha]
  split at hR
  · simp only [Bool.and_eq_true] at hR
    obtain ⟨⟨r1, r2⟩, r3⟩ := hR
    have hl := Nat.eq_of_beq_eq_true r3
    subst hl
    refine so_gf X hd r1 r2 s1 (Nat.le_of_ble_eq_true s2) S.1 hT ha hna ?_ G
    unfold en_f
    rw [s3]
    rfl
  · cases hR
/-- behind a change of one cell, the heap's shape kept -/
theorem sS_put {ad : Nat → Nat} {cl : Nat → ClassId} {H H1 : Heap} {locs locs1 : List Loc} {ls' : Array Slot} {st' : List cm_V} {h' : cm_H} (S : sm_S s k D A ad0 h0 ad cl H locs ls' ls st h) (hP : va_P D vwCl (sm_ws ad cl h') H1) (hD : va_D A (sm_ws ad cl h')) (hS : va_S A s.heap H1 locs1) (hok : sm_ok h') (hn : ch_n h' = ch_n h) (hT : ch_T h' = ch_T h) (hc : ch_c h' = ch_c h) (hs : ch_s h' = ch_s h) (hv : ∀ v ∈ st', vok h v) : sm_S s k D A ad0 h0 ad cl H1 locs1 ls' ls st' h' := by
  obtain ⟨S1, S2, S3, S4, S5, S6, S7, S8, S9, S10⟩ := S
  have hvv : ∀ v, vok h v → vok h' v := fun v q => by
    rcases v with x | r | x
    · exact q
    · show r.2 = 0 ∨ (r.2 < ch_n h' ∧ ch_T h' r.2 = r.1)
      rw [hn, hT]; exact q
    · exact q
  refine ⟨hP, hD, hS, hok, fun a q1 q2 q3 => ?_, lr_heap S6 hvv (fun v _ => rfl), fun v q => hvv v (hv v q), ⟨by rw [hc]; exact S8.1, by rw [hs]; exact S8.2⟩, by rw [hn]; exact S9, fun a q => by rw [hT]; exact S10 a q⟩
  rw [hn] at q2
  rw [hT] at q3 ⊢
  exact S5 a q1 q2 q3
theorem so_putI {w cc a : Nat} {v : Int} (X : sm_X p R s m args meth c k D A h0 hF d) {ci : Instr} (hci : ci = .putfield w ∨ (ci = .ret w ∧ (v = 0 ∨ v = 1))) (ho : ok_I k pc ci nx = true) (hk : Nat.beq cc (w / 100) = true) (ha : 0 < a) (K : sm_J p l e R s m args below meth c k D A ad0 h0 Fin nx ls st (ch_u h a (w % 100 : Nat) v)) : sm_J p l e R s m args below meth c k D A ad0 h0 Fin pc ls (.inl v :: .inr (.inl (cc, a)) :: st) h := by
  obtain ⟨raw, len, hd, rfl, hR⟩ := ok_I_inv ho
  intro ad cl H locs ls' S
  have V := List.forall_mem_cons.mp S.2.2.2.2.2.2.1
  have V2 := List.forall_mem_cons.mp V.2
  have hcc := Nat.eq_of_beq_eq_true hk
  subst hcc
  obtain ⟨hna, hT⟩ := vok_in V2.1 ha
  have R1 : ok_s (w / 100) (w % 100) = true ∧ ok_w k (w / 100) (w % 100) = true ∧ ∃ i, raw = .putfield i ∧ ok_f (sm_ow k) i w = true ∧ Nat.blt i 1000 = true ∧ len = 3 ∧ narrow (sm_tf (w / 100) (w % 100)) (.int (Int32.ofInt v)) = .int (Int32.ofInt v) ∧ fits (sm_tf (w / 100) (w % 100)) (.int (Int32.ofInt v)) = true := by
    rcases hci with rfl | ⟨rfl, hv⟩
    · dsimp only [ok_R] at hR
      simp only [Bool.and_eq_true] at hR
      obtain ⟨⟨⟨a1, a2⟩, a3⟩, a4⟩ := hR
      refine ⟨a1, a2, ?_⟩
      unfold ok_s at a1
      simp only [Bool.and_eq_true] at a1
      have b1 := (tf_one (Nat.le_of_ble_eq_true a1.1.1) (Nat.le_of_ble_eq_true a1.1.2)).1
      rw [Option.isNone_iff_eq_none.mp a1.2] at b1
      have b2 := b1.2 (by simpa using a3)
      split at a4
      · simp only [Bool.and_eq_true] at a4
        refine ⟨_, rfl, a4.1.1, a4.1.2, Nat.eq_of_beq_eq_true a4.2, ?_, ?_⟩
        · rw [b2]; rfl
        · rw [b2]; rfl
      · cases a4
    · dsimp only [ok_R] at hR
      simp only [Bool.and_eq_true] at hR
      obtain ⟨⟨⟨a1, a2⟩, a3⟩, a4⟩ := hR
      refine ⟨a1, a2, ?_⟩
      unfold ok_s at a1
      simp only [Bool.and_eq_true] at a1
      have b1 := (tf_one (Nat.le_of_ble_eq_true a1.1.1) (Nat.le_of_ble_eq_true a1.1.2)).1
      rw [Option.isNone_iff_eq_none.mp a1.2] at b1
      have b2 := b1.1 a3
      split at a4
      · simp only [Bool.and_eq_true] at a4
        refine ⟨_, rfl, a4.1.1, a4.1.2, Nat.eq_of_beq_eq_true a4.2, ?_, ?_⟩
        · rw [b2]; rcases hv with rfl | rfl <;> decide
        · rw [b2]; rcases hv with rfl | rfl <;> decide
      · cases a4
  obtain ⟨hs, how, i, rfl, r1, r2, rfl, hn, hfit⟩ := R1
  unfold ok_s at hs
  simp only [Bool.and_eq_true] at hs
  obtain ⟨⟨s1, s2⟩, s3⟩ := hs
  have s1 : w / 100 < 13 := Nat.le_of_ble_eq_true s1
  have s2 : w % 100 < sm_fn (w / 100) := Nat.le_of_ble_eq_true s2
  have s3 := Option.isNone_iff_eq_none.mp s3
  rw [List.map_cons, List.map_cons, en_ref ha]
  have hset : (sm_ws ad cl h).set (a - 1) (ad a, .inr (w / 100, (en_F ad h (w / 100) a).set (w % 100) (.int (Int32.ofInt v)))) = sm_ws ad cl (ch_u h a (w % 100 : Nat) v) := by
    refine sm_set ha hna rfl ?_ (fun b hb => en_C_congr rfl rfl (by rw [ch_I_u, if_neg hb]) rfl)
    rw [en_C_obj (h := ch_u h a (w % 100 : Nat) v) (c := w / 100) hT s1]
    congr 2
    apply List.ext_getElem?
    intro j
    rw [List.getElem?_set, en_F_len]
    by_cases hj : w % 100 = j
    · subst hj
      rw [if_pos rfl, if_pos s2, en_F_get s2]
      unfold en_f
      rw [s3, ch_I_u, if_pos rfl]
      simp
    · rw [if_neg hj]
      by_cases hl : j < sm_fn (w / 100)
      · rw [en_F_get hl, en_F_get hl]
        unfold en_f
        rw [ch_I_u, if_pos rfl]
        have e2 : (if (j : Int) = ((w % 100 : Nat) : Int) then v else ch_I h a (j : Int)) = ch_I h a (j : Int) := if_neg (by omega)
        simp only [e2]
        rfl
      · rw [List.getElem?_eq_none (by rw [en_F_len]; omega), List.getElem?_eq_none (by rw [en_F_len]; omega)]
  refine so_pf X hd r1 r2 s1 s2 how S.1 S.2.1 S.2.2.1 hT ha hna hn hfit (fun H1 locs1 hP1 hD1 hS1 => ?_)
  rw [show en_V ad (.inl v) = .int (Int32.ofInt v) from rfl, hset] at hP1 hD1
  exact K ad cl H1 locs1 ls' (sS_put S hP1 hD1 hS1 (sm_ok_u S.2.2.2.1 V.1) rfl rfl rfl rfl V2.2)
theorem nar_ref {t : FieldType} {ad : Nat → Nat} {b : Nat} (ht : isRf t = true) : narrow t (va_rf (en_R ad b)) = va_rf (en_R ad b) ∧ fits t (va_rf (en_R ad b)) = true := by
  unfold va_rf
  cases en_R ad b <;> cases t <;> first | exact ⟨rfl, rfl⟩ | cases ht
theorem so_putR {w cc a e2 b : Nat} (X : sm_X p R s m args meth c k D A h0 hF d) (ho : ok_I k pc (.putstatic w) nx = true) (hk : Nat.beq cc (w / 10000) = true) (hk2 : Nat.beq e2 (w % 100) = true) (ha : 0 < a) (K : sm_J p l e R s m args below meth c k D A ad0 h0 Fin nx ls st (ch_r h a (w / 100 % 100 : Nat) b)) : sm_J p l e R s m args below meth c k D A ad0 h0 Fin pc ls (.inr (.inl (e2, b)) :: .inr (.inl (cc, a)) :: st) h := by
  obtain ⟨raw, len, hd, rfl, hR⟩ := ok_I_inv ho
  intro ad cl H locs ls' S
  have V := List.forall_mem_cons.mp S.2.2.2.2.2.2.1
  have V2 := List.forall_mem_cons.mp V.2
  have hcc := Nat.eq_of_beq_eq_true hk
  have he2 := Nat.eq_of_beq_eq_true hk2
  subst hcc; subst he2
  obtain ⟨hna, hT⟩ := vok_in V2.1 ha
  have hw1 : w / 10000 = w / 100 / 100 := by omega
  rw [hw1] at hT
  dsimp only [ok_R] at hR
  simp only [Bool.and_eq_true] at hR
  obtain ⟨⟨hs, how⟩, hR⟩ := hR
  unfold ok_sr at hs
  simp only [Bool.and_eq_true, decide_eq_true_eq] at hs
  obtain ⟨⟨s1, s2⟩, s3⟩ := hs
  have s1 : w / 100 / 100 < 13 := Nat.le_of_ble_eq_true s1
  have s2 : w / 100 % 100 < sm_fn (w / 100 / 100) := Nat.le_of_ble_eq_true s2
  have b1 := (tf_one s1 s2).1
  rw [s3] at b1
  rw [List.map_cons, List.map_cons, en_ref ha]
  split at hR
  · simp only [Bool.and_eq_true] at hR
    obtain ⟨⟨r1, r2⟩, r3⟩ := hR
    have hl := Nat.eq_of_beq_eq_true r3
    subst hl
    have hset : (sm_ws ad cl h).set (a - 1) (ad a, .inr (w / 100 / 100, (en_F ad h (w / 100 / 100) a).set (w / 100 % 100) (va_rf (en_R ad b)))) = sm_ws ad cl (ch_r h a (w / 100 % 100 : Nat) b) := by
      refine sm_set ha hna rfl ?_ (fun z hb => en_C_congr rfl rfl rfl (by rw [ch_R_r, if_neg hb]))
      rw [en_C_obj (h := ch_r h a (w / 100 % 100 : Nat) b) (c := w / 100 / 100) hT s1]
      congr 2
      apply List.ext_getElem?
      intro j
      rw [List.getElem?_set, en_F_len]
      by_cases hj : w / 100 % 100 = j
      · subst hj
        rw [if_pos rfl, if_pos s2, en_F_get s2]
        unfold en_f
        rw [s3, ch_R_r, if_pos rfl]
        simp
      · rw [if_neg hj]
        by_cases hl : j < sm_fn (w / 100 / 100)
        · rw [en_F_get hl, en_F_get hl]
          unfold en_f
          rw [ch_R_r, if_pos rfl]
          have e3 : (if (j : Int) = ((w / 100 % 100 : Nat) : Int) then b else ch_R h a (j : Int)) = ch_R h a (j : Int) := if_neg (by omega)
          simp only [e3]
          rfl
        · rw [List.getElem?_eq_none (by rw [en_F_len]; omega), List.getElem?_eq_none (by rw [en_F_len]; omega)]
    refine so_pf X hd r1 r2 s1 s2 how S.1 S.2.1 S.2.2.1 hT ha hna (nar_ref b1).1 (nar_ref b1).2 (fun H1 locs1 hP1 hD1 hS1 => ?_)
    rw [show en_V ad (.inr (.inl (w % 100, b))) = va_rf (en_R ad b) from rfl, hset] at hP1 hD1
    exact K ad cl H1 locs1 ls' (sS_put S hP1 hD1 hS1 (sm_ok_r S.2.2.2.1 ha hT s1 s3 V.1) rfl rfl rfl rfl V2.2)
  · cases hR
end SOF
