/-! SIMULATION of arrays, new cells, and the library's own (wip/whole/genarr.py) -/
def sm_pn : Nat → Nat := fun c => bif Nat.blt c 6 then (bif Nat.blt c 3 then (bif Nat.blt c 1 then (bif Nat.beq c 0 then 421 else 0) else (bif Nat.blt c 2 then (bif Nat.beq c 1 then 398 else 0) else (bif Nat.beq c 2 then 430 else 0))) else (bif Nat.blt c 4 then (bif Nat.beq c 3 then 227 else 0) else (bif Nat.blt c 5 then (bif Nat.beq c 4 then 353 else 0) else (bif Nat.beq c 5 then 156 else 0)))) else (bif Nat.blt c 9 then (bif Nat.blt c 7 then (bif Nat.beq c 6 then 516 else 0) else (bif Nat.blt c 8 then (bif Nat.beq c 7 then 285 else 0) else (bif Nat.beq c 8 then 574 else 0))) else (bif Nat.blt c 11 then (bif Nat.blt c 10 then (bif Nat.beq c 9 then 150 else 0) else (bif Nat.beq c 10 then 324 else 0)) else (bif Nat.blt c 12 then (bif Nat.beq c 11 then 140 else 0) else (bif Nat.beq c 12 then 1335 else 0))))
set_option maxRecDepth 100000 in
theorem tk_n {c : Nat} (hc : c < 13) : Cond.instantiable (sm_cn c) (sm_fn c) ∈ tbG := by
  have h : (List.range 13).all (fun c => decide (lw_tbl[sm_pn c]? = some (Cond.instantiable (sm_cn c) (sm_fn c))) && goodWord (Cond.instantiable (sm_cn c) (sm_fn c))) = true := by decide +kernel
  have h2 := List.all_eq_true.mp h c (List.mem_range.mpr hc)
  simp only [Bool.and_eq_true, decide_eq_true_eq] at h2
  exact tb_in _ h2.1 h2.2
set_option maxRecDepth 100000 in
theorem tw_ar_int : (Cond.arrayClass .int) ∈ tbG := tb_in 181 (by decide +kernel) (by decide +kernel)
set_option maxRecDepth 100000 in
theorem tw_ar_byte : (Cond.arrayClass .byte) ∈ tbG := tb_in 180 (by decide +kernel) (by decide +kernel)
set_option maxRecDepth 100000 in
theorem tw_ar_boolean : (Cond.arrayClass .boolean) ∈ tbG := tb_in 1571 (by decide +kernel) (by decide +kernel)
set_option maxRecDepth 100000 in
theorem tw_oi : (Cond.instanceMethod objectInit) ∈ tbG := tb_in 145 (by decide +kernel) (by decide +kernel)
set_option maxRecDepth 100000 in
theorem tw_oc : (Cond.code objectInit ⟨#[0xb1]⟩ 1 none) ∈ tbG := tb_in 146 (by decide +kernel) (by decide +kernel)
set_option maxRecDepth 100000 in
theorem tw_cn : (Cond.native arraycopyName) ∈ tbG := tb_in 656 (by decide +kernel) (by decide +kernel)
set_option maxRecDepth 100000 in
theorem tw_cs : (Cond.static arraycopyName) ∈ tbG := tb_in 655 (by decide +kernel) (by decide +kernel)
set_option maxRecDepth 100000 in
theorem tw_ci : (Cond.initialized "java/lang/System") ∈ tbG := tb_in 132 (by decide +kernel) (by decide +kernel)
set_option maxRecDepth 100000 in
theorem tw_mi : (Cond.initialized "java/lang/Math") ∈ tbG := tb_in 133 (by decide +kernel) (by decide +kernel)
set_option maxRecDepth 100000 in
theorem tw_max_s : (Cond.static Lib.Math.max.name) ∈ tbG := tb_in 973 (by decide +kernel) (by decide +kernel)
set_option maxRecDepth 100000 in
theorem tw_max_c : (Cond.code Lib.Math.max.name Lib.Math.max.code 2 (some .int)) ∈ tbG := tb_in 974 (by decide +kernel) (by decide +kernel)
set_option maxRecDepth 100000 in
theorem tw_min_s : (Cond.static Lib.Math.min.name) ∈ tbG := tb_in 706 (by decide +kernel) (by decide +kernel)
set_option maxRecDepth 100000 in
theorem tw_min_c : (Cond.code Lib.Math.min.name Lib.Math.min.code 2 (some .int)) ∈ tbG := tb_in 707 (by decide +kernel) (by decide +kernel)
section SOA
variable {p : Program} {l : Launch} {e : Env} {R : Room} {s : State} {m : MethodId} {args : Array Value} {below : List Frame} {meth : Method} {c : Code} {k : Nat} {D : va_G} {A : Nat → Prop} {ad0 : Nat → Nat} {h0 hF : cm_H} {Fin : State → Prop} {d : Nat}
variable {pc nx : Nat} {ls : cm_L} {st t : List cm_V} {h : cm_H}
theorem sm_kt {cA : ClassId} {ty : FieldType} (hK : va_K D vwCl [] s) (har : ArrOfT s cA ty ∧ va_RA s cA ty) : va_K D vwCl [(cA, ty)] s := ⟨hK.1, fun q r hr => by
  have hz : q < 1 := (List.getElem?_eq_some_iff.mp hr).1
  rw [show q = 0 by omega] at hr
  cases hr
  exact har⟩
theorem vp_in_i {i n : Int} (hi : cm_i i) (h0 : 0 ≤ i) (h1 : i < n) : vp_in (Int32.ofInt i) n.toNat := by
  unfold vp_in
  rw [i3_nat hi]
  intro q
  rcases q with q | q
  · rw [← i3_z, i3_lt hi i3_0] at q; omega
  · omega
theorem so_iaload {i : Int} {a cc : Nat} {ci : Instr} (hci : (ci = .iaload ∧ cc = 20) ∨ (ci = .baload ∧ (cc = 21 ∨ cc = 22))) (X : sm_X p R s m args meth c k D A h0 hF d) (ho : ok_I k pc ci nx = true) (ha : 0 < a) (hi : 0 ≤ i ∧ i < ch_L h a) (K : sm_J p l e R s m args below meth c k D A ad0 h0 Fin nx ls (.inl (ch_I h a i) :: st) h) : sm_J p l e R s m args below meth c k D A ad0 h0 Fin pc ls (.inl i :: .inr (.inl (cc, a)) :: st) h := by
  obtain ⟨raw, len, hd, rfl, hR⟩ := ok_I_inv ho
  obtain ⟨hx, hb, -, -, -, -, -, -, hK, -⟩ := X
  intro ad cl H locs ls' S
  have V := List.forall_mem_cons.mp S.2.2.2.2.2.2.1
  have V2 := List.forall_mem_cons.mp V.2
  obtain ⟨hna, hT⟩ := vok_in V2.1 ha
  have G := K ad cl H locs ls' (sS_st S (List.forall_mem_cons.mpr ⟨S.2.2.2.1.2.1 a i, V2.2⟩))
  have hcc : 13 ≤ cc ∧ cc < 23 := by rcases hci with ⟨-, rfl⟩ | ⟨-, rfl | rfl⟩ <;> decide
  have hg : (sm_ws ad cl h)[a - 1]? = some (ad a, .inl (cl a, (ch_L h a).toNat, .inl (fun j => Int32.ofInt (ch_I h a (j : Int))))) := by rw [sm_get ha hna, en_C_int hT hcc.1 hcc.2]
  have har := S.2.2.2.2.1 a ha hna (by rw [hT]; rcases hci with ⟨-, rfl⟩ | ⟨-, rfl | rfl⟩ <;> decide)
  rw [hT] at har
  have hin := vp_in_i V.1 hi.1 hi.2
  have e1 : Int32.ofInt (ch_I h a ((Int32.ofInt i).toNatClampNeg : Int)) = Int32.ofInt (ch_I h a i) := by rw [i3_nat V.1, show ((i.toNat : Nat) : Int) = i by omega]
  rw [List.map_cons, List.map_cons, en_ref ha]
  rw [List.map_cons, show en_V ad (.inl (ch_I h a i)) = .int (Int32.ofInt (ch_I h a i)) from rfl, ← e1] at G
  rcases hci with ⟨rfl, rfl⟩ | ⟨rfl, hcc2⟩
  · dsimp only [ok_R] at hR
    obtain ⟨rfl, rfl⟩ := ok_same hR
    exact va_iald hx hb (sm_kt hK har) S.1 (a - 1) 0 hg rfl hin hd G
  · dsimp only [ok_R] at hR
    obtain ⟨rfl, rfl⟩ := ok_same hR
    rcases hcc2 with rfl | rfl
    · exact va_bald hx hb (sm_kt hK har) S.1 (a - 1) 0 hg rfl hin hd G
    · exact va_zald hx hb (sm_kt hK har) S.1 (a - 1) 0 hg rfl hin hd G
theorem set_int {ad : Nat → Nat} {cl : Nat → ClassId} {a cc : Nat} {i v : Int} (hT : ch_T h a = cc) (h1 : 13 ≤ cc) (h2 : cc < 23) (ha : 0 < a) (hna : a < ch_n h) (hi : cm_i i) (h0 : 0 ≤ i) : (sm_ws ad cl h).set (a - 1) (ad a, .inl (cl a, (ch_L h a).toNat, .inl (upd (fun j => Int32.ofInt (ch_I h a (j : Int))) (Int32.ofInt i).toNatClampNeg (Int32.ofInt v)))) = sm_ws ad cl (ch_u h a i v) := by
  refine sm_set ha hna rfl ?_ (fun b hb => en_C_congr rfl rfl (by rw [ch_I_u, if_neg hb]) rfl)
  rw [en_C_int (h := ch_u h a i v) (c := cc) hT h1 h2]
  have e : (fun j : Nat => Int32.ofInt (ch_I (ch_u h a i v) a (j : Int))) = upd (fun j => Int32.ofInt (ch_I h a (j : Int))) (Int32.ofInt i).toNatClampNeg (Int32.ofInt v) := by
    funext j
    rw [ch_I_u, if_pos rfl, i3_nat hi]
    unfold upd
    by_cases hj : j = i.toNat
    · rw [if_pos hj, if_pos (by omega)]
    · rw [if_neg hj, if_neg (by omega)]
  rw [e]
  rfl
theorem so_iastore {i v : Int} {a : Nat} (X : sm_X p R s m args meth c k D A h0 hF d) (ho : ok_I k pc .iastore nx = true) (ha : 0 < a) (hi : 0 ≤ i ∧ i < ch_L h a) (K : sm_J p l e R s m args below meth c k D A ad0 h0 Fin nx ls st (ch_u h a i v)) : sm_J p l e R s m args below meth c k D A ad0 h0 Fin pc ls (.inl v :: .inl i :: .inr (.inl (20, a)) :: st) h := by
  obtain ⟨raw, len, hd, rfl, hR⟩ := ok_I_inv ho
  obtain ⟨hx, hb, -, -, -, -, -, -, hK, -⟩ := X
  intro ad cl H locs ls' S
  have V := List.forall_mem_cons.mp S.2.2.2.2.2.2.1
  have V2 := List.forall_mem_cons.mp V.2
  have V3 := List.forall_mem_cons.mp V2.2
  obtain ⟨hna, hT⟩ := vok_in V3.1 ha
  have hg : (sm_ws ad cl h)[a - 1]? = some (ad a, .inl (cl a, (ch_L h a).toNat, .inl (fun j => Int32.ofInt (ch_I h a (j : Int))))) := by rw [sm_get ha hna, en_C_int hT (by decide) (by decide)]
  have har := S.2.2.2.2.1 a ha hna (by rw [hT]; decide)
  rw [hT] at har
  have hin := vp_in_i V2.1 hi.1 hi.2
  dsimp only [ok_R] at hR
  obtain ⟨rfl, rfl⟩ := ok_same hR
  rw [List.map_cons, List.map_cons, List.map_cons, en_ref ha]
  refine va_iast hx hb (sm_kt hK har) S.1 S.2.1 S.2.2.1 (a - 1) 0 hg rfl hin hd (fun H1 locs1 hP1 hD1 hS1 => ?_)
  rw [set_int hT (by decide) (by decide) ha hna V2.1 hi.1] at hP1 hD1
  exact K ad cl H1 locs1 ls' (sS_put S hP1 hD1 hS1 (sm_ok_u S.2.2.2.1 V.1) rfl rfl rfl rfl V3.2)
theorem nar_b {v : Int} (h : -128 ≤ v ∧ v ≤ 127) : vp_nar .byte (Int32.ofInt v) = Int32.ofInt v := by
  show (Int32.ofInt v).toInt8.toInt32 = _
  rw [i3_i2b]
  congr 1
  omega
theorem nar_z {v : Int} (h : v = 0 ∨ v = 1) : vp_nar .boolean (Int32.ofInt v) = Int32.ofInt v := by
  rcases h with rfl | rfl <;> decide
theorem nar_bz {v : Int} (h : v = 0 ∨ v = 1) : vp_nar .byte (Int32.ofInt v) = Int32.ofInt v := by
  rcases h with rfl | rfl <;> decide
theorem so_bastore {i v : Int} {cc a : Nat} (X : sm_X p R s m args meth c k D A h0 hF d) (ho : ok_I k pc .bastore nx = true) (hk : (Nat.beq cc 21 || Nat.beq cc 22) = true) (hv : (cc = 21 ∧ -128 ≤ v ∧ v ≤ 127) ∨ v = 0 ∨ v = 1) (ha : 0 < a) (hi : 0 ≤ i ∧ i < ch_L h a) (K : sm_J p l e R s m args below meth c k D A ad0 h0 Fin nx ls st (ch_u h a i v)) : sm_J p l e R s m args below meth c k D A ad0 h0 Fin pc ls (.inl v :: .inl i :: .inr (.inl (cc, a)) :: st) h := by
  obtain ⟨raw, len, hd, rfl, hR⟩ := ok_I_inv ho
  obtain ⟨hx, hb, -, -, -, -, -, -, hK, -⟩ := X
  intro ad cl H locs ls' S
  have V := List.forall_mem_cons.mp S.2.2.2.2.2.2.1
  have V2 := List.forall_mem_cons.mp V.2
  have V3 := List.forall_mem_cons.mp V2.2
  obtain ⟨hna, hT⟩ := vok_in V3.1 ha
  have hcc : cc = 21 ∨ cc = 22 := by
    rw [Bool.or_eq_true] at hk
    rcases hk with q | q
    · exact Or.inl (Nat.eq_of_beq_eq_true q)
    · exact Or.inr (Nat.eq_of_beq_eq_true q)
  have h13 : 13 ≤ cc ∧ cc < 23 := by omega
  have hg : (sm_ws ad cl h)[a - 1]? = some (ad a, .inl (cl a, (ch_L h a).toNat, .inl (fun j => Int32.ofInt (ch_I h a (j : Int))))) := by rw [sm_get ha hna, en_C_int hT h13.1 h13.2]
  have har := S.2.2.2.2.1 a ha hna (by rw [hT]; omega)
  rw [hT] at har
  have hin := vp_in_i V2.1 hi.1 hi.2
  dsimp only [ok_R] at hR
  obtain ⟨rfl, rfl⟩ := ok_same hR
  rw [List.map_cons, List.map_cons, List.map_cons, en_ref ha]
  rcases hcc with rfl | rfl
  · refine va_bast hx hb (sm_kt hK har) S.1 S.2.1 S.2.2.1 (a - 1) 0 hg rfl hin hd (fun H1 locs1 hP1 hD1 hS1 => ?_)
    have hn : vp_nar .byte (Int32.ofInt v) = Int32.ofInt v := by
      rcases hv with q | q
      · exact nar_b q.2
      · exact nar_bz q
    rw [hn, set_int hT (by decide) (by decide) ha hna V2.1 hi.1] at hP1 hD1
    exact K ad cl H1 locs1 ls' (sS_put S hP1 hD1 hS1 (sm_ok_u S.2.2.2.1 V.1) rfl rfl rfl rfl V3.2)
  · refine va_zast hx hb (sm_kt hK har) S.1 S.2.1 S.2.2.1 (a - 1) 0 hg rfl hin hd (fun H1 locs1 hP1 hD1 hS1 => ?_)
    have hn : vp_nar .boolean (Int32.ofInt v) = Int32.ofInt v := by
      rcases hv with q | q
      · omega
      · exact nar_z q
    rw [hn, set_int hT (by decide) (by decide) ha hna V2.1 hi.1] at hP1 hD1
    exact K ad cl H1 locs1 ls' (sS_put S hP1 hD1 hS1 (sm_ok_u S.2.2.2.1 V.1) rfl rfl rfl rfl V3.2)
theorem so_aaload {i : Int} {cc a : Nat} (X : sm_X p R s m args meth c k D A h0 hF d) (ho : ok_I k pc .aaload nx = true) (hk : (Nat.ble 23 cc && Nat.ble cc 25) = true) (ha : 0 < a) (hi : 0 ≤ i ∧ i < ch_L h a) (K : sm_J p l e R s m args below meth c k D A ad0 h0 Fin nx ls (.inr (.inl (cm_ek cc, ch_R h a i)) :: st) h) : sm_J p l e R s m args below meth c k D A ad0 h0 Fin pc ls (.inl i :: .inr (.inl (cc, a)) :: st) h := by
  obtain ⟨raw, len, hd, rfl, hR⟩ := ok_I_inv ho
  obtain ⟨hx, hb, -, -, -, -, -, -, hK, -⟩ := X
  intro ad cl H locs ls' S
  have V := List.forall_mem_cons.mp S.2.2.2.2.2.2.1
  have V2 := List.forall_mem_cons.mp V.2
  obtain ⟨hna, hT⟩ := vok_in V2.1 ha
  rw [Bool.and_eq_true] at hk
  have h23 := Nat.le_of_ble_eq_true hk.1
  have h25 := Nat.le_of_ble_eq_true hk.2
  have O := S.2.2.2.1
  have hvok : vok h (.inr (.inl (cm_ek cc, ch_R h a i))) := by
    rcases O.2.2.2.2.2.2 a ha hna (by rw [hT]; exact h23) i with q | q
    · exact Or.inl q
    · exact Or.inr ⟨O.2.2.1 a i, by rw [hT] at q; exact q⟩
  have G := K ad cl H locs ls' (sS_st S (List.forall_mem_cons.mpr ⟨hvok, V2.2⟩))
  have hg : (sm_ws ad cl h)[a - 1]? = some (ad a, .inl (cl a, (ch_L h a).toNat, .inr (.inr (.inr (.inr (fun j => en_R ad (ch_R h a (j : Int)))))))) := by rw [sm_get ha hna, en_C_ref hT h23]
  have har := S.2.2.2.2.1 a ha hna (by rw [hT]; omega)
  rw [hT] at har
  have hin := vp_in_i V.1 hi.1 hi.2
  dsimp only [ok_R] at hR
  obtain ⟨rfl, rfl⟩ := ok_same hR
  rw [List.map_cons, List.map_cons, en_ref ha]
  have hlt : (Int32.ofInt i).toNatClampNeg < (ch_L h a).toNat := Nat.not_le.mp fun q => hin (Or.inr q)
  have e1 : en_R ad (ch_R h a ((Int32.ofInt i).toNatClampNeg : Int)) = en_R ad (ch_R h a i) := by rw [i3_nat V.1, show ((i.toNat : Nat) : Int) = i by omega]
  rw [List.map_cons, show en_V ad (.inr (.inl (cm_ek cc, ch_R h a i))) = va_rf (en_R ad (ch_R h a i)) from rfl, ← e1] at G
  have hcell := S.1 (a - 1) _ hg
  refine W.aald (v := va_rf (en_R ad (ch_R h a ((Int32.ofInt i).toNatClampNeg : Int)))) (ty := sm_ty cc) hx hb hcell (har.1 (ch_L h a).toNat (fun j => va_rf (en_R ad (ch_R h a (j : Int))))) ?_ (fun q => by cases q) (by show ¬ (_ < 0 ∨ (arrV _ _ _).slots.size ≤ _); rw [arrV_size]; exact hin) (by show (arrV _ _ _).slots[_]? = _; rw [arrV_read _ _ hlt]) rfl rfl hd G
  have : cc = 23 ∨ cc = 24 ∨ cc = 25 := by omega
  rcases this with rfl | rfl | rfl <;> rfl
theorem so_aastore {i : Int} {cc a e2 b : Nat} (X : sm_X p R s m args meth c k D A h0 hF d) (ho : ok_I k pc .aastore nx = true) (hk : (Nat.beq cc 24 || Nat.beq cc 25) = true) (hk2 : Nat.beq e2 (cm_ek cc) = true) (hb0 : 0 < b) (ha : 0 < a) (hi : 0 ≤ i ∧ i < ch_L h a) (K : sm_J p l e R s m args below meth c k D A ad0 h0 Fin nx ls st (ch_r h a i b)) : sm_J p l e R s m args below meth c k D A ad0 h0 Fin pc ls (.inr (.inl (e2, b)) :: .inl i :: .inr (.inl (cc, a)) :: st) h := by
  obtain ⟨raw, len, hd, rfl, hR⟩ := ok_I_inv ho
  obtain ⟨hx, hb, -, -, -, -, -, -, hK, -⟩ := X
  intro ad cl H locs ls' S
  have V := List.forall_mem_cons.mp S.2.2.2.2.2.2.1
  have V2 := List.forall_mem_cons.mp V.2
  have V3 := List.forall_mem_cons.mp V2.2
  obtain ⟨hna, hT⟩ := vok_in V3.1 ha
  have he2 := Nat.eq_of_beq_eq_true hk2
  subst he2
  obtain ⟨hnb, hTb⟩ := vok_in V.1 hb0
  have hcc : cc = 24 ∨ cc = 25 := by
    rw [Bool.or_eq_true] at hk
    rcases hk with q | q
    · exact Or.inl (Nat.eq_of_beq_eq_true q)
    · exact Or.inr (Nat.eq_of_beq_eq_true q)
  have h23 : 23 ≤ cc := by omega
  have hg : (sm_ws ad cl h)[a - 1]? = some (ad a, .inl (cl a, (ch_L h a).toNat, .inr (.inr (.inr (.inr (fun j => en_R ad (ch_R h a (j : Int)))))))) := by rw [sm_get ha hna, en_C_ref hT h23]
  have har := S.2.2.2.2.1 a ha hna (by rw [hT]; omega)
  rw [hT] at har
  have hin := vp_in_i V2.1 hi.1 hi.2
  dsimp only [ok_R] at hR
  obtain ⟨rfl, rfl⟩ := ok_same hR
  rw [List.map_cons, List.map_cons, List.map_cons, en_ref ha, en_ref hb0]
  have h13 : cm_ek cc < 13 := by rcases hcc with rfl | rfl <;> decide
  have hgb : (sm_ws ad cl h)[b - 1]? = some (ad b, .inr (cm_ek cc, en_F ad h (cm_ek cc) b)) := by rw [sm_get hb0 hnb, en_C_obj hTb h13]
  have hty : sm_ty cc = .object (sm_cn (cm_ek cc)) := by rcases hcc with rfl | rfl <;> rfl
  rw [hty] at har
  refine va_astq (r := (sm_cn (cm_ek cc), sm_T (cm_ek cc), sm_fn (cm_ek cc))) hx hb (sm_kt hK har) S.1 S.2.1 S.2.2.1 (a - 1) 0 (b - 1) (cm_ek cc) hg rfl hgb (vw_at h13) hin hd (fun H1 locs1 hP1 hD1 hS1 => ?_)
  have hset : (sm_ws ad cl h).set (a - 1) (ad a, .inl (cl a, (ch_L h a).toNat, .inr (.inr (.inr (.inr (va_up (fun j => en_R ad (ch_R h a (j : Int))) (Int32.ofInt i).toNatClampNeg (some (ad b)))))))) = sm_ws ad cl (ch_r h a i b) := by
    refine sm_set ha hna rfl ?_ (fun z hz => en_C_congr rfl rfl rfl (by rw [ch_R_r, if_neg hz]))
    rw [en_C_ref (h := ch_r h a i b) (c := cc) hT h23]
    have ee : (fun j : Nat => en_R ad (ch_R (ch_r h a i b) a (j : Int))) = va_up (fun j => en_R ad (ch_R h a (j : Int))) (Int32.ofInt i).toNatClampNeg (some (ad b)) := by
      funext j
      rw [ch_R_r, if_pos rfl, i3_nat V2.1]
      unfold va_up
      by_cases hj : j = i.toNat
      · rw [if_pos hj, if_pos (by omega)]
        unfold en_R
        rw [if_neg (by omega)]
      · rw [if_neg hj, if_neg (by omega)]
    rw [ee]
    rfl
  rw [hset] at hP1 hD1
  exact K ad cl H1 locs1 ls' (sS_put S hP1 hD1 hS1 (sm_ok_ra S.2.2.2.1 hT h23 ⟨hnb, hTb⟩) rfl rfl rfl rfl V3.2)
theorem so_alen {cc a : Nat} (X : sm_X p R s m args meth c k D A h0 hF d) (ho : ok_I k pc .arraylength nx = true) (hk : (Nat.ble 20 cc && Nat.ble cc 25) = true) (ha : 0 < a) (K : sm_J p l e R s m args below meth c k D A ad0 h0 Fin nx ls (.inl (ch_L h a) :: st) h) : sm_J p l e R s m args below meth c k D A ad0 h0 Fin pc ls (.inr (.inl (cc, a)) :: st) h := by
  obtain ⟨raw, len, hd, rfl, hR⟩ := ok_I_inv ho
  obtain ⟨hx, hb, -, -, -, -, -, -, hK, -⟩ := X
  intro ad cl H locs ls' S
  have V := List.forall_mem_cons.mp S.2.2.2.2.2.2.1
  obtain ⟨hna, hT⟩ := vok_in V.1 ha
  rw [Bool.and_eq_true] at hk
  have h20 := Nat.le_of_ble_eq_true hk.1
  have h25 := Nat.le_of_ble_eq_true hk.2
  have hL := S.2.2.2.1.2.2.2.2.1 a
  have G := K ad cl H locs ls' (sS_st S (List.forall_mem_cons.mpr ⟨⟨by omega, by omega⟩, V.2⟩))
  have har := S.2.2.2.2.1 a ha hna (by rw [hT]; exact h20)
  rw [hT] at har
  dsimp only [ok_R] at hR
  obtain ⟨rfl, rfl⟩ := ok_same hR
  rw [List.map_cons, en_ref ha]
  have e1 : Int32.ofNat (ch_L h a).toNat = Int32.ofInt (ch_L h a) := by
    rw [← Int32.ofInt_eq_ofNat]
    congr 1
    omega
  rcases Nat.lt_or_ge cc 23 with q | q
  · have hg : (sm_ws ad cl h)[a - 1]? = some (ad a, .inl (cl a, (ch_L h a).toNat, .inl (fun j => Int32.ofInt (ch_I h a (j : Int))))) := by rw [sm_get ha hna, en_C_int hT (by omega) q]
    exact va_alen hx hb (sm_kt hK har) S.1 (a - 1) 0 hg rfl e1 hd G
  · have hg : (sm_ws ad cl h)[a - 1]? = some (ad a, .inl (cl a, (ch_L h a).toNat, .inr (.inr (.inr (.inr (fun j => en_R ad (ch_R h a (j : Int)))))))) := by rw [sm_get ha hna, en_C_ref hT q]
    exact va_alen hx hb (sm_kt hK har) S.1 (a - 1) 0 hg rfl e1 hd G
/-- behind a new cell -/
theorem sS_new {ad : Nat → Nat} {cl : Nat → ClassId} {H H1 : Heap} {locs : List Loc} {ls' : Array Slot} {st' : List cm_V} {kd q : Nat} {cA : ClassId} {len : Int} {sl : Nat} {E : va_E} (S : sm_S s k D A ad0 h0 ad cl H locs ls' ls st h) (hE : en_C (va_up ad (ch_n h) q) (va_up cl (ch_n h) cA) (ch_new h kd len sl) (ch_n h) = E) (hP : va_P D vwCl (sm_ws ad cl h ++ [(q, E)]) H1) (hD : va_D A (sm_ws ad cl h ++ [(q, E)])) (hS : va_S A s.heap H1 locs) (hkd : kd < 13 ∨ (20 ≤ kd ∧ kd ≤ 25)) (hl : 0 ≤ len ∧ len ≤ 1000000) (har : 20 ≤ kd → ArrOfT s cA (sm_ty kd) ∧ va_RA s cA (sm_ty kd)) (hv : ∀ v ∈ st', vok h v) : sm_S s k D A ad0 h0 (va_up ad (ch_n h) q) (va_up cl (ch_n h) cA) H1 locs ls' ls (.inr (.inl (kd, ch_n h)) :: st') (ch_new h kd len sl) ∧ (∀ v ∈ st', en_V (va_up ad (ch_n h) q) v = en_V ad v) := by
  obtain ⟨S1, S2, S3, S4, S5, S6, S7, S8, S9, S10⟩ := S
  rw [sm_new S4 hE] at hP hD
  refine ⟨⟨hP, hD, hS, sm_ok_new S4 hkd hl, sm_ar_new S5 har, lr_heap S6 (fun v q => vok_new q) (fun v q => en_V_up S4.1 q), List.forall_mem_cons.mpr ⟨Or.inr ⟨by rw [ch_n_new]; exact Nat.lt_succ_self _, by rw [ch_T_new, if_pos rfl]⟩, fun v q => vok_new (hv v q)⟩, S8.tr (cm_ge_new _ _ _ _), by rw [ch_n_new]; omega, fun a q => ?_⟩, fun v q => en_V_up S4.1 (hv v q)⟩
  have := S10 a q
  rw [ch_T_new, if_neg (by omega)]
  refine ⟨?_, this.2⟩
  unfold va_up
  rw [if_neg (by omega)]
  exact this.1
theorem so_new {w : Nat} (X : sm_X p R s m args meth c k D A h0 hF d) (ho : ok_I k pc (.new w) nx = true) (hg : cm_ge (ch_new h (w / 100) 0 (w % 100)) hF) (K : sm_J p l e R s m args below meth c k D A ad0 h0 Fin nx ls (.inr (.inl (w / 100, ch_n h)) :: st) (ch_new h (w / 100) 0 (w % 100))) : sm_J p l e R s m args below meth c k D A ad0 h0 Fin pc ls st h := by
  obtain ⟨raw, len, hd, rfl, hR⟩ := ok_I_inv ho
  obtain ⟨hx, hb, -, hown, hts, -, -, -, hK, -, -, -, -, hA, -, hRc, hRs, -⟩ := X
  intro ad cl H locs ls' S
  dsimp only [ok_R] at hR
  simp only [Bool.and_eq_true] at hR
  obtain ⟨⟨a1, a2⟩, hR⟩ := hR
  have a1 : w / 100 < 13 := Nat.le_of_ble_eq_true a1
  have a2 := Nat.eq_of_beq_eq_true a2
  have g1 : ch_c h + 1 ≤ ch_c hF := hg.1
  have g2 : ch_s h + w % 100 ≤ ch_s hF := hg.2
  have S8 := S.2.2.2.2.2.2.2.1
  split at hR
  · simp only [Bool.and_eq_true] at hR
    obtain ⟨⟨r1, r2⟩, r3⟩ := hR
    have hl := Nat.eq_of_beq_eq_true r3
    subst hl
    obtain ⟨q, hq, hq2⟩ := List.any_eq_true.mp r1
    rw [Bool.and_eq_true] at hq2
    obtain ⟨k1, k2⟩ := key_inv hq2.1 r2
    have k3 := Nat.eq_of_beq_eq_true hq2.2
    have hw := hts _ (lk_c hq)
    rw [k1, k2, k3] at hw
    have c1 := S8.1
    have c2 := S8.2
    refine va_new (ci := w / 100) (fs := en_F ad (ch_new h (w / 100) 0 (w % 100)) (w / 100) (ch_n h)) (N := sm_fn (w / 100)) hx hb hts (tk_f a1) (sm_tf (w / 100)) (tf_ok a1) hown hw (hts _ (tk_n a1)) (hts _ (tk_x (by omega))) hK S.1 S.2.1 S.2.2.1 hA (vw_at a1) (fun j hj => ?_) (by rw [hRc]; omega) (by rw [hRs, ← a2]; omega) hd (fun q H1 hP1 hD1 hS1 => ?_)
    · unfold vp_V
      rw [List.getD_eq_getElem?_getD, en_F_get hj]
      show _ = en_f _ _ _ _ _
      unfold en_f
      have b1 := (tf_one a1 hj).1
      rw [ch_R_new, ch_I_new, if_pos rfl, if_pos rfl]
      cases hf : sm_fk (w / 100) j with
      | some z =>
        rw [hf] at b1
        have b1 : isRf (sm_tf (w / 100) j) = true := b1
        generalize sm_tf (w / 100) j = ty at b1
        cases ty <;> first | rfl | cases b1
      | none =>
        rw [hf] at b1
        cases hz : sm_fz (w / 100) j with
        | true => rw [b1.1 hz]; rfl
        | false => rw [b1.2 hz]; rfl
    · obtain ⟨S', he⟩ := sS_new (q := q) (cA := 0) (kd := w / 100) (len := 0) (sl := w % 100) S (by
        rw [en_C_obj (c := w / 100) (by rw [ch_T_new, if_pos rfl]) a1]
        unfold en_F en_f
        rw [ch_R_new, if_pos rfl]
        rfl) hP1 hD1 hS1 (Or.inl a1) ⟨by decide, by decide⟩ (fun q => by omega) S.2.2.2.2.2.2.1
      have G := K _ _ H1 locs ls' S'
      have e1 : ch_c (ch_new h (w / 100) 0 (w % 100)) - ch_c h0 = ch_c h - ch_c h0 + 1 := by show ch_c h + 1 - ch_c h0 = _; omega
      have e2 : ch_s (ch_new h (w / 100) 0 (w % 100)) - ch_s h0 = ch_s h - ch_s h0 + sm_fn (w / 100) := by show ch_s h + w % 100 - ch_s h0 = _; omega
      rw [e1, e2, List.map_cons, en_ref (show 0 < ch_n h from S.2.2.2.1.1), List.map_congr_left he] at G
      rw [show va_up ad (ch_n h) q (ch_n h) = q from if_pos rfl] at G
      exact G
  · cases hR
theorem so_newK {kd : Nat} {n : Int} {at_ : ArrayType} (hkd : (kd = 20 ∧ at_ = .int) ∨ (kd = 21 ∧ at_ = .byte) ∨ (kd = 22 ∧ at_ = .boolean)) (X : sm_X p R s m args meth c k D A h0 hF d) (ho : ok_I k pc (.newarray at_) nx = true) (hn : 0 ≤ n ∧ n ≤ 1000000) (hg : cm_ge (ch_new h kd n n.toNat) hF) (K : sm_J p l e R s m args below meth c k D A ad0 h0 Fin nx ls (.inr (.inl (kd, ch_n h)) :: st) (ch_new h kd n n.toNat)) : sm_J p l e R s m args below meth c k D A ad0 h0 Fin pc ls (.inl n :: st) h := by
  obtain ⟨raw, len, hd, rfl, hR⟩ := ok_I_inv ho
  obtain ⟨hx, hb, -, hown, hts, -, -, -, hK, -, -, -, -, hA, -, hRc, hRs, -⟩ := X
  intro ad cl H locs ls' S
  have V := List.forall_mem_cons.mp S.2.2.2.2.2.2.1
  dsimp only [ok_R] at hR
  obtain ⟨rfl, rfl⟩ := ok_same hR
  have g1 : ch_c h + 1 ≤ ch_c hF := hg.1
  have g2 : ch_s h + n.toNat ≤ ch_s hF := hg.2
  have S8 := S.2.2.2.2.2.2.2.1
  have c1 := S8.1
  have c2 := S8.2
  have hn0 : ¬ Int32.ofInt n < 0 := by rw [← i3_z, i3_lt V.1 i3_0]; omega
  have hk2 : 13 ≤ kd ∧ kd < 23 ∧ 20 ≤ kd ∧ kd ≤ 25 := by rcases hkd with ⟨rfl, -⟩ | ⟨rfl, -⟩ | ⟨rfl, -⟩ <;> decide
  have hty : newarray.typeOf at_ = sm_ty kd := by rcases hkd with ⟨rfl, rfl⟩ | ⟨rfl, rfl⟩ | ⟨rfl, rfl⟩ <;> rfl
  have harr : (Cond.arrayClass (newarray.typeOf at_)).before args s = true := by
    rcases hkd with ⟨-, rfl⟩ | ⟨-, rfl⟩ | ⟨-, rfl⟩
    · exact hts _ tw_ar_int
    · exact hts _ tw_ar_byte
    · exact hts _ tw_ar_boolean
  have hdv : ∀ cA : ClassId, vp_cell cA (n.toNat, .inl (fun _ => Int32.ofInt 0)) = arrV cA n.toNat (fun _ => defaultValue (sm_ty kd)) := by
    intro cA
    rcases hkd with ⟨rfl, -⟩ | ⟨rfl, -⟩ | ⟨rfl, -⟩ <;> rfl
  have hbytes : n.toNat * componentBytes (sm_ty kd) ≤ 536870912 := by
    have : componentBytes (sm_ty kd) ≤ 4 := by rcases hkd with ⟨rfl, -⟩ | ⟨rfl, -⟩ | ⟨rfl, -⟩ <;> decide
    have h2 := Nat.mul_le_mul_left n.toNat this
    omega
  refine va_newa (atype := at_) (ty := sm_ty kd) (N' := n.toNat) (a0 := (n.toNat, .inl (fun _ => Int32.ofInt 0))) hx hb harr hty hK S.1 S.2.1 S.2.2.1 hA hdv hn0 (i3_nat V.1) hbytes (by rw [hRc]; omega) (by rw [hRs]; omega) hd (fun q cA H1 hK1 hP1 hD1 hS1 => ?_)
  obtain ⟨S', he⟩ := sS_new (q := q) (cA := cA) (kd := kd) (len := n) (sl := n.toNat) (st' := st) S (by
    rw [en_C_int (c := kd) (by rw [ch_T_new, if_pos rfl]) hk2.1 hk2.2.1, ch_L_new, if_pos rfl, ch_I_new, if_pos rfl]
    rw [show va_up cl (ch_n h) cA (ch_n h) = cA from if_pos rfl]) hP1 hD1 hS1 (Or.inr hk2.2.2) hn (fun _ => hK1.2 0 _ rfl) V.2
  have G := K _ _ H1 locs ls' S'
  have e1 : ch_c (ch_new h kd n n.toNat) - ch_c h0 = ch_c h - ch_c h0 + 1 := by show ch_c h + 1 - ch_c h0 = _; omega
  have e2 : ch_s (ch_new h kd n n.toNat) - ch_s h0 = ch_s h - ch_s h0 + n.toNat := by show ch_s h + n.toNat - ch_s h0 = _; omega
  rw [e1, e2, List.map_cons, en_ref (show 0 < ch_n h from S.2.2.2.1.1), List.map_congr_left he] at G
  rw [show va_up ad (ch_n h) q (ch_n h) = q from if_pos rfl] at G
  exact G
theorem so_newA {w : Nat} {n : Int} (X : sm_X p R s m args meth c k D A h0 hF d) (ho : ok_I k pc (.anewarray w) nx = true) (hn : 0 ≤ n ∧ n ≤ 1000000) (hg : cm_ge (ch_new h w n n.toNat) hF) (K : sm_J p l e R s m args below meth c k D A ad0 h0 Fin nx ls (.inr (.inl (w, ch_n h)) :: st) (ch_new h w n n.toNat)) : sm_J p l e R s m args below meth c k D A ad0 h0 Fin pc ls (.inl n :: st) h := by
  obtain ⟨raw, len, hd, rfl, hR⟩ := ok_I_inv ho
  obtain ⟨hx, hb, -, hown, hts, -, -, -, hK, -, hG, hPc, -, hA, -, hRc, hRs, -⟩ := X
  intro ad cl H locs ls' S
  have V := List.forall_mem_cons.mp S.2.2.2.2.2.2.1
  dsimp only [ok_R] at hR
  simp only [Bool.and_eq_true, Bool.or_eq_true] at hR
  obtain ⟨a1, hR⟩ := hR
  have hw2 : w = 24 ∨ w = 25 := by
    rcases a1 with q | q
    · exact Or.inl (Nat.eq_of_beq_eq_true q)
    · exact Or.inr (Nat.eq_of_beq_eq_true q)
  have g1 : ch_c h + 1 ≤ ch_c hF := hg.1
  have g2 : ch_s h + n.toNat ≤ ch_s hF := hg.2
  have S8 := S.2.2.2.2.2.2.2.1
  have c1 := S8.1
  have c2 := S8.2
  have hn0 : ¬ Int32.ofInt n < 0 := by rw [← i3_z, i3_lt V.1 i3_0]; omega
  split at hR
  · simp only [Bool.and_eq_true] at hR
    obtain ⟨⟨r1, r2⟩, r3⟩ := hR
    have hl := Nat.eq_of_beq_eq_true r3
    subst hl
    obtain ⟨q, hq, hq2⟩ := List.any_eq_true.mp r1
    rw [Bool.and_eq_true] at hq2
    obtain ⟨k1, k2⟩ := key_inv hq2.1 r2
    have k3 := Nat.eq_of_beq_eq_true hq2.2
    have hw := hts _ (lk_c hq)
    rw [k1, k2, k3] at hw
    have hover : va_AO (sm_cn (cm_ek w)) s := by rcases hw2 with rfl | rfl; exact hG; exact hPc
    refine va_newq (N' := n.toNat) hx hb hown hw hover hK S.1 S.2.1 S.2.2.1 hA hn0 (i3_nat V.1) (by omega) (by rw [hRc]; omega) (by rw [hRs]; omega) hd (fun q cA H1 hK1 hP1 hD1 hS1 => ?_)
    have hty : sm_ty w = .object (sm_cn (cm_ek w)) := by rcases hw2 with rfl | rfl <;> rfl
    obtain ⟨S', he⟩ := sS_new (q := q) (cA := cA) (kd := w) (len := n) (sl := n.toNat) (st' := st) S (by
      rw [en_C_ref (c := w) (by rw [ch_T_new, if_pos rfl]) (by omega), ch_L_new, if_pos rfl, ch_R_new, if_pos rfl]
      rw [show va_up cl (ch_n h) cA (ch_n h) = cA from if_pos rfl]
      rfl) hP1 hD1 hS1 (Or.inr (by omega)) hn (fun _ => by rw [hty]; exact hK1.2 0 _ rfl) V.2
    have G := K _ _ H1 locs ls' S'
    have e1 : ch_c (ch_new h w n n.toNat) - ch_c h0 = ch_c h - ch_c h0 + 1 := by show ch_c h + 1 - ch_c h0 = _; omega
    have e2 : ch_s (ch_new h w n n.toNat) - ch_s h0 = ch_s h - ch_s h0 + n.toNat := by show ch_s h + n.toNat - ch_s h0 = _; omega
    rw [e1, e2, List.map_cons, en_ref (show 0 < ch_n h from S.2.2.2.1.1), List.map_congr_left he] at G
    rw [show va_up ad (ch_n h) q (ch_n h) = q from if_pos rfl] at G
    exact G
  · cases hR
theorem sum_en {ad : Nat → Nat} : ∀ st : List cm_V, ((st.map (en_V ad)).map fun v => v.category).sum = cm_sum st
  | [] => rfl
  | v :: t => by
    rw [List.map_cons, List.map_cons, List.sum_cons, sum_en t, cat_en]
    rfl
theorem so_objInit {w cc a : Nat} (X : sm_X p R s m args meth c k D A h0 hF d) (ho : ok_I k pc (.invokespecial w) nx = true) (hk : Nat.ble (cm_sum st) 8 = true) (ha : 0 < a) (K : sm_J p l e R s m args below meth c k D A ad0 h0 Fin nx ls st h) : sm_J p l e R s m args below meth c k D A ad0 h0 Fin pc ls (.inr (.inl (cc, a)) :: st) h := by
  obtain ⟨raw, len, hd, rfl, hR⟩ := ok_I_inv ho
  obtain ⟨hx, hb, hml, hown, hts, -, -, -, hK, -, -, -, -, -, -, -, -, hRf, hRl⟩ := X
  intro ad cl H locs ls' S
  have V := List.forall_mem_cons.mp S.2.2.2.2.2.2.1
  have G := K ad cl H locs ls' (sS_st S V.2)
  dsimp only [ok_R] at hR
  have hsz := S.2.2.2.2.2.1.1.1
  have hk := Nat.le_of_ble_eq_true hk
  split at hR
  · simp only [Bool.and_eq_true] at hR
    obtain ⟨⟨r1, r2⟩, r3⟩ := hR
    have hl := Nat.eq_of_beq_eq_true r3
    subst hl
    obtain ⟨q, hq, hq2⟩ := List.any_eq_true.mp r1
    obtain ⟨k1, k2⟩ := key_inv hq2 r2
    have hw := hts _ (lk_obj hq)
    rw [k1, k2] at hw
    rw [List.map_cons, en_ref ha]
    exact W.objInit hx hb hown hw (hts _ tw_oi) (hts _ tw_oc) rfl (hsz.trans hml.symm) rfl hd (by rw [hRf]; omega) (by show 2 * 0 + _ + 12 ≤ _; rw [sum_en, hRl]; omega) G
  · cases hR
theorem so_max {x y : Int} (X : sm_X p R s m args meth c k D A h0 hF d) (hg : cm_ge h hF) (ho : ok_I k pc .dadd nx = true) (hsum : cm_sum st ≤ 8) (K : sm_J p l e R s m args below meth c k D A ad0 h0 Fin nx ls (.inl (max x y) :: st) h) : sm_J p l e R s m args below meth c k D A ad0 h0 Fin pc ls (.inl y :: .inl x :: st) h := by
  obtain ⟨raw, len, hd, rfl, hR⟩ := ok_I_inv ho
  obtain ⟨hx, hb, hml, hown, hts, -, -, -, hK, -, -, -, -, -, -, hRc, hRs, hRf, hRl⟩ := X
  intro ad cl H locs ls' S
  have V := List.forall_mem_cons.mp S.2.2.2.2.2.2.1
  have V2 := List.forall_mem_cons.mp V.2
  have hv : vok h (.inl (max x y)) := by
    show cm_i _
    rcases Int.le_total x y with q | q
    · rw [Int.max_eq_right q]; exact V.1
    · rw [Int.max_eq_left q]; exact V2.1
  have G := K ad cl H locs ls' (sS_st S (List.forall_mem_cons.mpr ⟨hv, V2.2⟩))
  have hsz := S.2.2.2.2.2.1.1.1
  have S8 := S.2.2.2.2.2.2.2.1
  have c1 := S8.1
  have c2 := S8.2
  have g1 := hg.1
  have g2 := hg.2
  dsimp only [ok_R] at hR
  split at hR
  · simp only [Bool.and_eq_true] at hR
    obtain ⟨⟨r1, r2⟩, r3⟩ := hR
    have hl := Nat.eq_of_beq_eq_true r3
    subst hl
    obtain ⟨q, hq, hq2⟩ := List.any_eq_true.mp r1
    obtain ⟨k1, k2⟩ := key_inv hq2 r2
    have hw := hts _ (lk_max hq)
    rw [k1, k2] at hw
    refine va_mmax hx hb (hml.trans hsz.symm) hown hw (hts _ tw_max_s) (hts _ tw_mi) (hts _ tw_max_c) (by rw [hRf]; omega) (by rw [sum_en, hRl]; omega) (by rw [hRc]; omega) (by rw [hRs]; omega) hd ?_
    have e1 : (if Int32.ofInt x < Int32.ofInt y then Int32.ofInt y else Int32.ofInt x) = Int32.ofInt (max x y) := by
      by_cases q : x < y
      · rw [if_pos ((i3_lt V2.1 V.1).mpr q), Int.max_eq_right (by omega)]
      · rw [if_neg (fun z => q ((i3_lt V2.1 V.1).mp z)), Int.max_eq_left (by omega)]
    rw [e1]
    exact G
  · cases hR
theorem so_min {x y : Int} (X : sm_X p R s m args meth c k D A h0 hF d) (hg : cm_ge h hF) (ho : ok_I k pc .dsub nx = true) (hsum : cm_sum st ≤ 8) (K : sm_J p l e R s m args below meth c k D A ad0 h0 Fin nx ls (.inl (min x y) :: st) h) : sm_J p l e R s m args below meth c k D A ad0 h0 Fin pc ls (.inl y :: .inl x :: st) h := by
  obtain ⟨raw, len, hd, rfl, hR⟩ := ok_I_inv ho
  obtain ⟨hx, hb, hml, hown, hts, -, -, -, hK, -, -, -, -, -, -, hRc, hRs, hRf, hRl⟩ := X
  intro ad cl H locs ls' S
  have V := List.forall_mem_cons.mp S.2.2.2.2.2.2.1
  have V2 := List.forall_mem_cons.mp V.2
  have hv : vok h (.inl (min x y)) := by
    show cm_i _
    rcases Int.le_total x y with q | q
    · rw [Int.min_eq_left q]; exact V2.1
    · rw [Int.min_eq_right q]; exact V.1
  have G := K ad cl H locs ls' (sS_st S (List.forall_mem_cons.mpr ⟨hv, V2.2⟩))
  have hsz := S.2.2.2.2.2.1.1.1
  have S8 := S.2.2.2.2.2.2.2.1
  have c1 := S8.1
  have c2 := S8.2
  have g1 := hg.1
  have g2 := hg.2
  dsimp only [ok_R] at hR
  split at hR
  · simp only [Bool.and_eq_true] at hR
    obtain ⟨⟨r1, r2⟩, r3⟩ := hR
    have hl := Nat.eq_of_beq_eq_true r3
    subst hl
    obtain ⟨q, hq, hq2⟩ := List.any_eq_true.mp r1
    obtain ⟨k1, k2⟩ := key_inv hq2 r2
    have hw := hts _ (lk_min hq)
    rw [k1, k2] at hw
    refine va_mmin hx hb (hml.trans hsz.symm) hown hw (hts _ tw_min_s) (hts _ tw_mi) (hts _ tw_min_c) (by rw [hRf]; omega) (by rw [sum_en, hRl]; omega) (by rw [hRc]; omega) (by rw [hRs]; omega) hd ?_
    have e1 : (if Int32.ofInt y < Int32.ofInt x then Int32.ofInt y else Int32.ofInt x) = Int32.ofInt (min x y) := by
      by_cases q : y < x
      · rw [if_pos ((i3_lt V.1 V2.1).mpr q), Int.min_eq_right (by omega)]
      · rw [if_neg (fun z => q ((i3_lt V.1 V2.1).mp z)), Int.min_eq_left (by omega)]
    rw [e1]
    exact G
  · cases hR
theorem so_copy {w a b : Nat} {i j n : Int} (X : sm_X p R s m args meth c k D A h0 hF d) (ho : ok_I k pc (.invokedynamic w) nx = true) (hk : cm_sum st ≤ 8) (ha : 0 < a) (hb0 : 0 < b) (hi : 0 ≤ i) (hj : 0 ≤ j) (hn : 0 ≤ n) (hs1 : i + n ≤ ch_L h a) (hs2 : j + n ≤ ch_L h b) (K : sm_J p l e R s m args below meth c k D A ad0 h0 Fin nx ls st (ch_cp h a i b j n)) : sm_J p l e R s m args below meth c k D A ad0 h0 Fin pc ls (.inl n :: .inl j :: .inr (.inl (20, b)) :: .inl i :: .inr (.inl (20, a)) :: st) h := by
  obtain ⟨raw, len, hd, rfl, hR⟩ := ok_I_inv ho
  obtain ⟨hx, hb, hml, hown, hts, -, -, -, hK, -, -, -, -, -, -, hRc, hRs, hRf, hRl⟩ := X
  intro ad cl H locs ls' S
  have V := List.forall_mem_cons.mp S.2.2.2.2.2.2.1
  have V2 := List.forall_mem_cons.mp V.2
  have V3 := List.forall_mem_cons.mp V2.2
  have V4 := List.forall_mem_cons.mp V3.2
  have V5 := List.forall_mem_cons.mp V4.2
  obtain ⟨hnb, hTb⟩ := vok_in V3.1 hb0
  obtain ⟨hna, hTa⟩ := vok_in V5.1 ha
  have hsz := S.2.2.2.2.2.1.1.1
  have hga : (sm_ws ad cl h)[a - 1]? = some (ad a, .inl (cl a, (ch_L h a).toNat, .inl (fun j => Int32.ofInt (ch_I h a (j : Int))))) := by rw [sm_get ha hna, en_C_int hTa (by decide) (by decide)]
  have hgb : (sm_ws ad cl h)[b - 1]? = some (ad b, .inl (cl b, (ch_L h b).toNat, .inl (fun j => Int32.ofInt (ch_I h b (j : Int))))) := by rw [sm_get hb0 hnb, en_C_int hTb (by decide) (by decide)]
  have hara := S.2.2.2.2.1 a ha hna (by rw [hTa]; decide)
  have harb := S.2.2.2.2.1 b hb0 hnb (by rw [hTb]; decide)
  rw [hTa] at hara
  rw [hTb] at harb
  have hK2 : va_K D vwCl [(cl a, .int), (cl b, .int)] s := ⟨hK.1, fun q r hr => by
    match q, hr with
    | 0, hr => cases hr; exact hara
    | 1, hr => cases hr; exact harb
    | q + 2, hr => cases hr⟩
  have nn : ∀ z : Int, cm_i z → 0 ≤ z → ¬ Int32.ofInt z < 0 := fun z hz h0 q => by rw [← i3_z, i3_lt hz i3_0] at q; omega
  dsimp only [ok_R] at hR
  split at hR
  · simp only [Bool.and_eq_true] at hR
    obtain ⟨⟨r1, r2⟩, r3⟩ := hR
    have hl := Nat.eq_of_beq_eq_true r3
    subst hl
    obtain ⟨q, hq, hq2⟩ := List.any_eq_true.mp r1
    obtain ⟨k1, k2⟩ := key_inv hq2 r2
    have hw := hts _ (lk_cpy hq)
    rw [k1, k2] at hw
    rw [List.map_cons, List.map_cons, List.map_cons, List.map_cons, List.map_cons, en_ref ha, en_ref hb0]
    refine va_copyi (ty := .int) hx hb (hml.trans hsz.symm) hown hw (hts _ tw_cn) (hts _ tw_cs) (hts _ tw_ci) hK2 S.1 S.2.1 S.2.2.1 (a - 1) (b - 1) 0 1 hga hgb rfl rfl rfl (nn i V4.1 hi) (nn j V2.1 hj) (nn n V.1 hn) (by rw [i3_nat V4.1, i3_nat V.1]; omega) (by rw [i3_nat V2.1, i3_nat V.1]; omega) (fun _ _ => rfl) (by rw [hRf]; omega) (by rw [sum_en, hRl]; show _ + ((5 + 2) + 11) ≤ _; omega) hd (fun H1 locs1 hP1 hD1 hS1 => ?_)
    have hset : (sm_ws ad cl h).set (b - 1) (ad b, .inl (cl b, (ch_L h b).toNat, .inl (va_cpy (fun j => Int32.ofInt (ch_I h a (j : Int))) (fun j => Int32.ofInt (ch_I h b (j : Int))) (Int32.ofInt i).toNatClampNeg (Int32.ofInt j).toNatClampNeg (Int32.ofInt n).toNatClampNeg))) = sm_ws ad cl (ch_cp h a i b j n) := by
      refine sm_set hb0 hnb rfl ?_ (fun z hz => en_C_congr rfl rfl (by show (if z = b then _ else ch_I h z) = _; rw [if_neg hz]) rfl)
      rw [en_C_int (h := ch_cp h a i b j n) (c := 20) hTb (by decide) (by decide)]
      have ee : (fun z : Nat => Int32.ofInt (ch_I (ch_cp h a i b j n) b (z : Int))) = va_cpy (fun j => Int32.ofInt (ch_I h a (j : Int))) (fun j => Int32.ofInt (ch_I h b (j : Int))) (Int32.ofInt i).toNatClampNeg (Int32.ofInt j).toNatClampNeg (Int32.ofInt n).toNatClampNeg := by
        funext z
        rw [i3_nat V4.1, i3_nat V2.1, i3_nat V.1]
        unfold va_cpy
        show Int32.ofInt ((if b = b then (fun q => if j ≤ q ∧ q < j + n then ch_I h a (i + (q - j)) else ch_I h b q) else ch_I h b) (z : Int)) = _
        rw [if_pos rfl]
        by_cases hz : j ≤ (z : Int) ∧ (z : Int) < j + n
        · rw [if_pos hz, if_pos (show j.toNat ≤ z ∧ z < j.toNat + n.toNat by omega)]
          show Int32.ofInt (ch_I h a _) = Int32.ofInt (ch_I h a _)
          congr 2
          omega
        · rw [if_neg hz, if_neg (show ¬ (j.toNat ≤ z ∧ z < j.toNat + n.toNat) by omega)]
      rw [ee]
      rfl
    rw [hset] at hP1 hD1
    refine K ad cl H1 locs1 ls' (sS_put S hP1 hD1 hS1 (sm_ok_w S.2.2.2.1 (fun q => ?_)) rfl rfl rfl rfl V5.2)
    split
    · exact S.2.2.2.1.2.1 a _
    · exact S.2.2.2.1.2.1 b _
  · cases hR
end SOA
