/-! THE CHECK: a clean instruction is what the bytes say -/
def ok_f (own idx w : Nat) : Bool := sm_fl.any (fun e => Nat.beq e.1 (own * 1000 + idx) && Nat.beq e.2.1 w) || sm_fnL.any (fun e => Nat.beq e.1 (own * 1000 + idx) && Nat.beq e.2 w)
def ok_m (own idx m : Nat) : Bool := sm_ml.any (fun e => Nat.beq e.1 (own * 1000 + idx) && Nat.beq e.2.1 m) || sm_mnL.any (fun e => Nat.beq e.1 (own * 1000 + idx) && Nat.beq e.2 m)
def ok_2 (l : List (Nat × Nat)) (own idx : Nat) : Bool := l.any (fun e => Nat.beq e.1 (own * 1000 + idx))
def ok_c (own idx c : Nat) : Bool := sm_cl.any (fun e => Nat.beq e.1 (own * 1000 + idx) && Nat.beq e.2.1 c)
def ok_ld (l : List (Nat × Int × Nat)) (own idx : Nat) (v : Int) : Bool := l.any (fun e => Nat.beq e.1 (own * 1000 + idx) && decide (e.2.1 = v))
/-- a slot of a class: a number, a reference -/
def ok_s (c j : Nat) : Bool := Nat.blt c 13 && Nat.blt j (sm_fn c) && (sm_fk c j).isNone
def ok_sr (c j kd : Nat) : Bool := Nat.blt c 13 && Nat.blt j (sm_fn c) && decide (sm_fk c j = some kd)
/-- it may be written here -/
def ok_w (k c j : Nat) : Bool := !sm_ff c j || (sm_isI k && Nat.beq (sm_ow k) c)
/-- a local of one slot may be stored there -/
def ok_l (k i : Nat) : Bool := Nat.blt i (cm_maxL k) && (sm_LI k).all (fun j => !Nat.beq (j + 1) i)
def ok_R (k pc : Nat) (raw : Instr) (len : Nat) (ci : Instr) : Bool := match ci with
  | .iconst v => match raw with
    | .iconst n => decide (Int32.ofInt n = Int32.ofInt v) && Nat.beq len 1
    | .bipush n => decide ((Int8.ofInt n).toInt32 = Int32.ofInt v) && Nat.beq len 2
    | .sipush n => decide ((Int16.ofInt n).toInt32 = Int32.ofInt v) && Nat.beq len 3
    | .ldc i => ok_ld sm_ld (sm_ow k) i v && Nat.blt i 1000 && Nat.beq len 2
    | _ => false
  | .goto_w v => match raw with
    | .lconst n => decide (Int64.ofNat (n : Nat) = Int64.ofInt v) && Nat.beq len 1
    | .ldc2_w i => ok_ld sm_ll (sm_ow k) i v && Nat.blt i 1000 && Nat.beq len 3
    | _ => false
  | .iload i => match raw with
    | .iload_n n => decide ((n : Nat) = i) && Nat.beq len 1
    | .iload j => Nat.beq j i && Nat.beq len 2
    | _ => false
  | .lload i => match raw with
    | .lload_n n => decide ((n : Nat) = i) && Nat.beq len 1
    | .lload j => Nat.beq j i && Nat.beq len 2
    | _ => false
  | .aload i => match raw with
    | .aload_n n => decide ((n : Nat) = i) && Nat.beq len 1
    | .aload j => Nat.beq j i && Nat.beq len 2
    | _ => false
  | .istore i => ok_l k i && (match raw with
    | .istore_n n => decide ((n : Nat) = i) && Nat.beq len 1
    | .istore j => Nat.beq j i && Nat.beq len 2
    | _ => false)
  | .astore i => ok_l k i && (match raw with
    | .astore_n n => decide ((n : Nat) = i) && Nat.beq len 1
    | .astore j => Nat.beq j i && Nat.beq len 2
    | _ => false)
  | .lstore i => ok_l k i && Nat.blt (i + 1) (cm_maxL k) && (sm_LI k).contains i && (match raw with
    | .lstore_n n => decide ((n : Nat) = i) && Nat.beq len 1
    | .lstore j => Nat.beq j i && Nat.beq len 2
    | _ => false)
  | .iinc i n => ok_l k i && decide (raw = .iinc i n) && Nat.beq len 3
  | .if_icmp c t => match raw with
    | .if_icmp c2 off => decide (c2 = c) && decide ((pc : Int) + off = t) && decide (0 ≤ t) && Nat.beq len 3
    | _ => false
  | .ifCond c t => match raw with
    | .ifCond c2 off => decide (c2 = c) && decide ((pc : Int) + off = t) && decide (0 ≤ t) && Nat.beq len 3
    | _ => false
  | .goto t => match raw with
    | .goto off => decide ((pc : Int) + off = t) && decide (0 ≤ t) && Nat.beq len 3
    | _ => false
  | .lookupswitch d ps => decide (0 ≤ d) && ps.toList.all (fun q => decide (0 ≤ q.2)) && (match raw with
    | .tableswitch d2 lo hi offs => decide ((pc : Int) + d2 = d) && decide (ps.toList = offs.toList.zipIdx.map (fun q => (lo + (q.2 : Int), (pc : Int) + q.1))) && decide (hi + 1 = lo + (offs.size : Int))
    | .lookupswitch d2 qs => decide ((pc : Int) + d2 = d) && decide (ps.toList = qs.toList.map (fun q => (q.1, (pc : Int) + q.2))) && (qs.toList.zip (qs.toList.drop 1)).all (fun (a, next) => a.1 < next.1)
    | _ => false)
  | .getfield w => ok_s (w / 100) (w % 100) && (match raw with
    | .getfield i => ok_f (sm_ow k) i w && Nat.blt i 1000 && Nat.beq len 3
    | _ => false)
  | .getstatic w => ok_sr (w / 100 / 100) (w / 100 % 100) (w % 100) && (match raw with
    | .getfield i => ok_f (sm_ow k) i (w / 100) && Nat.blt i 1000 && Nat.beq len 3
    | _ => false)
  | .putfield w => ok_s (w / 100) (w % 100) && ok_w k (w / 100) (w % 100) && !sm_fz (w / 100) (w % 100) && (match raw with
    | .putfield i => ok_f (sm_ow k) i w && Nat.blt i 1000 && Nat.beq len 3
    | _ => false)
  | .ret w => ok_s (w / 100) (w % 100) && ok_w k (w / 100) (w % 100) && sm_fz (w / 100) (w % 100) && (match raw with
    | .putfield i => ok_f (sm_ow k) i w && Nat.blt i 1000 && Nat.beq len 3
    | _ => false)
  | .putstatic w => ok_sr (w / 100 / 100) (w / 100 % 100) (w % 100) && ok_w k (w / 100 / 100) (w / 100 % 100) && (match raw with
    | .putfield i => ok_f (sm_ow k) i (w / 100) && Nat.blt i 1000 && Nat.beq len 3
    | _ => false)
  | .new w => Nat.blt (w / 100) 13 && Nat.beq (w % 100) (sm_fn (w / 100)) && (match raw with
    | .new i => ok_c (sm_ow k) i (w / 100) && Nat.blt i 1000 && Nat.beq len 3
    | _ => false)
  | .newarray t => decide (raw = .newarray t) && Nat.beq len 2
  | .anewarray w => (Nat.beq w 24 || Nat.beq w 25) && (match raw with
    | .anewarray i => ok_c (sm_ow k) i (cm_ek w) && Nat.blt i 1000 && Nat.beq len 3
    | _ => false)
  | .multianewarray _ _ => match raw with
    | .multianewarray i n => ok_2 sm_cm (sm_ow k) i && Nat.blt i 1000 && Nat.beq n 2 && Nat.beq len 4
    | _ => false
  | .drem => match raw with
    | .invokestatic i => ok_2 sm_fm (sm_ow k) i && Nat.blt i 1000 && Nat.beq len 3
    | _ => false
  | .dadd => match raw with
    | .invokestatic i => ok_2 sm_max (sm_ow k) i && Nat.blt i 1000 && Nat.beq len 3
    | _ => false
  | .dsub => match raw with
    | .invokestatic i => ok_2 sm_min (sm_ow k) i && Nat.blt i 1000 && Nat.beq len 3
    | _ => false
  | .invokespecial _ => match raw with
    | .invokespecial i => ok_2 sm_obj (sm_ow k) i && Nat.blt i 1000 && Nat.beq len 3
    | _ => false
  | .invokedynamic _ => match raw with
    | .invokestatic i => ok_2 sm_cpy (sm_ow k) i && Nat.blt i 1000 && Nat.beq len 3
    | _ => false
  | .invokeinterface m n => Nat.blt m 245 && (match raw with
    | .invokevirtual i => ok_m (sm_ow k) i m && Nat.blt i 1000 && !sm_sta m && !sm_isI m && Nat.beq n (sm_na m + 1) && Nat.blt (sm_ow m) 13 && Nat.beq len 3
    | .invokestatic i => ok_m (sm_ow k) i m && Nat.blt i 1000 && sm_sta m && Nat.beq n (sm_na m) && Nat.beq len 3
    | .invokespecial i => ok_m (sm_ow k) i m && Nat.blt i 1000 && !sm_sta m && sm_isI m && Nat.beq n (sm_na m + 1) && Nat.beq len 3
    | _ => false)
  | .ireturn => decide (raw = .ireturn) && Nat.beq len 1 && decide (sm_rt k = some .int)
  | .freturn => decide (raw = .ireturn) && Nat.beq len 1 && decide (sm_rt k = some .boolean)
  | .areturn => decide (raw = .areturn) && Nat.beq len 1 && (match sm_rt k with
    | some (.object _) => true
    | some (.array _) => true
    | _ => false)
  | .return_ => decide (raw = .return_) && Nat.beq len 1 && decide (sm_rt k = none)
  | .athrow => Nat.beq k m_Works_term
  | .iadd => decide (raw = .iadd) && Nat.beq len 1
  | .isub => decide (raw = .isub) && Nat.beq len 1
  | .imul => decide (raw = .imul) && Nat.beq len 1
  | .idiv => decide (raw = .idiv) && Nat.beq len 1
  | .irem => decide (raw = .irem) && Nat.beq len 1
  | .ineg => decide (raw = .ineg) && Nat.beq len 1
  | .iand => decide (raw = .iand) && Nat.beq len 1
  | .ishr => decide (raw = .ishr) && Nat.beq len 1
  | .i2b => decide (raw = .i2b) && Nat.beq len 1
  | .i2l => decide (raw = .i2l) && Nat.beq len 1
  | .l2i => decide (raw = .l2i) && Nat.beq len 1
  | .ladd => decide (raw = .ladd) && Nat.beq len 1
  | .lsub => decide (raw = .lsub) && Nat.beq len 1
  | .lmul => decide (raw = .lmul) && Nat.beq len 1
  | .lrem => decide (raw = .lrem) && Nat.beq len 1
  | .lcmp => decide (raw = .lcmp) && Nat.beq len 1
  | .iaload => decide (raw = .iaload) && Nat.beq len 1
  | .baload => decide (raw = .baload) && Nat.beq len 1
  | .aaload => decide (raw = .aaload) && Nat.beq len 1
  | .iastore => decide (raw = .iastore) && Nat.beq len 1
  | .bastore => decide (raw = .bastore) && Nat.beq len 1
  | .aastore => decide (raw = .aastore) && Nat.beq len 1
  | .arraylength => decide (raw = .arraylength) && Nat.beq len 1
  | .dup => decide (raw = .dup) && Nat.beq len 1
  | .dup2 => decide (raw = .dup2) && Nat.beq len 1
  | .pop => decide (raw = .pop) && Nat.beq len 1
  | _ => false
def ok_I (k pc : Nat) (ci : Instr) (nx : Nat) : Bool := match decode (sm_b k) pc with
  | .ok (raw, len) => Nat.beq nx (pc + len) && ok_R k pc raw len ci
  | .error _ => false
def ok_M (k B : Nat) : Bool := (List.range B).all (fun pc => match cm_code k pc with
  | some (ci, nx) => ok_I k pc ci nx
  | none => true)
theorem ok_of {k B : Nat} (h : ok_M k B = true) (hB : ∀ pc, B ≤ pc → cm_code k pc = none) {pc : Nat} {ci : Instr} {nx : Nat} (hc : cm_code k pc = some (ci, nx)) : ok_I k pc ci nx = true := by
  rcases Nat.lt_or_ge pc B with hl | hg
  · have h1 := List.all_eq_true.mp h pc (List.mem_range.mpr hl)
    rw [hc] at h1
    exact h1
  · rw [hB pc hg] at hc
    cases hc
theorem cb_0 : ∀ pc, 89 ≤ pc → cm_code 0 pc = none := by
  intro pc h
  show cd_Bases_init pc = none
  unfold cd_Bases_init
  rw [show Nat.blt pc 89 = false from by rw [Bool.eq_false_iff]; intro q; have := Nat.le_of_ble_eq_true q; omega]
  rfl
theorem cb_1 : ∀ pc, 39 ≤ pc → cm_code 1 pc = none := by
  intro pc h
  show cd_Bases_begin pc = none
  unfold cd_Bases_begin
  rw [show Nat.blt pc 39 = false from by rw [Bool.eq_false_iff]; intro q; have := Nat.le_of_ble_eq_true q; omega]
  rfl
theorem cb_2 : ∀ pc, 228 ≤ pc → cm_code 2 pc = none := by
  intro pc h
  show cd_Bases_fillSizes pc = none
  unfold cd_Bases_fillSizes
  rw [show Nat.blt pc 228 = false from by rw [Bool.eq_false_iff]; intro q; have := Nat.le_of_ble_eq_true q; omega]
  rfl
theorem cb_3 : ∀ pc, 21 ≤ pc → cm_code 3 pc = none := by
  intro pc h
  show cd_Bases_grade pc = none
  unfold cd_Bases_grade
  rw [show Nat.blt pc 21 = false from by rw [Bool.eq_false_iff]; intro q; have := Nat.le_of_ble_eq_true q; omega]
  rfl
theorem cb_4 : ∀ pc, 196 ≤ pc → cm_code 4 pc = none := by
  intro pc h
  show cd_Bases_build pc = none
  unfold cd_Bases_build
  rw [show Nat.blt pc 196 = false from by rw [Bool.eq_false_iff]; intro q; have := Nat.le_of_ble_eq_true q; omega]
  rfl
theorem cb_5 : ∀ pc, 21 ≤ pc → cm_code 5 pc = none := by
  intro pc h
  show cd_Echelon_init pc = none
  unfold cd_Echelon_init
  rw [show Nat.blt pc 21 = false from by rw [Bool.eq_false_iff]; intro q; have := Nat.le_of_ble_eq_true q; omega]
  rfl
theorem cb_6 : ∀ pc, 46 ≤ pc → cm_code 6 pc = none := by
  intro pc h
  show cd_Echelon_begin pc = none
  unfold cd_Echelon_begin
  rw [show Nat.blt pc 46 = false from by rw [Bool.eq_false_iff]; intro q; have := Nat.le_of_ble_eq_true q; omega]
  rfl
theorem cb_7 : ∀ pc, 174 ≤ pc → cm_code 7 pc = none := by
  intro pc h
  show cd_Echelon_insert pc = none
  unfold cd_Echelon_insert
  rw [show Nat.blt pc 174 = false from by rw [Bool.eq_false_iff]; intro q; have := Nat.le_of_ble_eq_true q; omega]
  rfl
theorem cb_8 : ∀ pc, 60 ≤ pc → cm_code 8 pc = none := by
  intro pc h
  show cd_Echelon_subtract pc = none
  unfold cd_Echelon_subtract
  rw [show Nat.blt pc 60 = false from by rw [Bool.eq_false_iff]; intro q; have := Nat.le_of_ble_eq_true q; omega]
  rfl
theorem cb_9 : ∀ pc, 43 ≤ pc → cm_code 9 pc = none := by
  intro pc h
  show cd_Echelon_finish pc = none
  unfold cd_Echelon_finish
  rw [show Nat.blt pc 43 = false from by rw [Bool.eq_false_iff]; intro q; have := Nat.le_of_ble_eq_true q; omega]
  rfl
theorem cb_10 : ∀ pc, 79 ≤ pc → cm_code 10 pc = none := by
  intro pc h
  show cd_Echelon_finishRow pc = none
  unfold cd_Echelon_finishRow
  rw [show Nat.blt pc 79 = false from by rw [Bool.eq_false_iff]; intro q; have := Nat.le_of_ble_eq_true q; omega]
  rfl
theorem cb_11 : ∀ pc, 52 ≤ pc → cm_code 11 pc = none := by
  intro pc h
  show cd_Grade_init pc = none
  unfold cd_Grade_init
  rw [show Nat.blt pc 52 = false from by rw [Bool.eq_false_iff]; intro q; have := Nat.le_of_ble_eq_true q; omega]
  rfl
theorem cb_12 : ∀ pc, 59 ≤ pc → cm_code 12 pc = none := by
  intro pc h
  show cd_Grade_beginBase pc = none
  unfold cd_Grade_beginBase
  rw [show Nat.blt pc 59 = false from by rw [Bool.eq_false_iff]; intro q; have := Nat.le_of_ble_eq_true q; omega]
  rfl
theorem cb_13 : ∀ pc, 82 ≤ pc → cm_code 13 pc = none := by
  intro pc h
  show cd_Grade_takeBase pc = none
  unfold cd_Grade_takeBase
  rw [show Nat.blt pc 82 = false from by rw [Bool.eq_false_iff]; intro q; have := Nat.le_of_ble_eq_true q; omega]
  rfl
theorem cb_14 : ∀ pc, 129 ≤ pc → cm_code 14 pc = none := by
  intro pc h
  show cd_Grade_beginProducts pc = none
  unfold cd_Grade_beginProducts
  rw [show Nat.blt pc 129 = false from by rw [Bool.eq_false_iff]; intro q; have := Nat.le_of_ble_eq_true q; omega]
  rfl
theorem cb_15 : ∀ pc, 39 ≤ pc → cm_code 15 pc = none := by
  intro pc h
  show cd_Grade_takeParts pc = none
  unfold cd_Grade_takeParts
  rw [show Nat.blt pc 39 = false from by rw [Bool.eq_false_iff]; intro q; have := Nat.le_of_ble_eq_true q; omega]
  rfl
theorem cb_16 : ∀ pc, 212 ≤ pc → cm_code 16 pc = none := by
  intro pc h
  show cd_Grade_insert pc = none
  unfold cd_Grade_insert
  rw [show Nat.blt pc 212 = false from by rw [Bool.eq_false_iff]; intro q; have := Nat.le_of_ble_eq_true q; omega]
  rfl
theorem cb_17 : ∀ pc, 68 ≤ pc → cm_code 17 pc = none := by
  intro pc h
  show cd_Grade_clearBehind pc = none
  unfold cd_Grade_clearBehind
  rw [show Nat.blt pc 68 = false from by rw [Bool.eq_false_iff]; intro q; have := Nat.le_of_ble_eq_true q; omega]
  rfl
theorem cb_18 : ∀ pc, 105 ≤ pc → cm_code 18 pc = none := by
  intro pc h
  show cd_Grade_turn pc = none
  unfold cd_Grade_turn
  rw [show Nat.blt pc 105 = false from by rw [Bool.eq_false_iff]; intro q; have := Nat.le_of_ble_eq_true q; omega]
  rfl
theorem cb_19 : ∀ pc, 118 ≤ pc → cm_code 19 pc = none := by
  intro pc h
  show cd_Grade_solve pc = none
  unfold cd_Grade_solve
  rw [show Nat.blt pc 118 = false from by rw [Bool.eq_false_iff]; intro q; have := Nat.le_of_ble_eq_true q; omega]
  rfl
theorem cb_20 : ∀ pc, 45 ≤ pc → cm_code 20 pc = none := by
  intro pc h
  show cd_Grade_label pc = none
  unfold cd_Grade_label
  rw [show Nat.blt pc 45 = false from by rw [Bool.eq_false_iff]; intro q; have := Nat.le_of_ble_eq_true q; omega]
  rfl
theorem cb_21 : ∀ pc, 80 ≤ pc → cm_code 21 pc = none := by
  intro pc h
  show cd_Grade_productOf pc = none
  unfold cd_Grade_productOf
  rw [show Nat.blt pc 80 = false from by rw [Bool.eq_false_iff]; intro q; have := Nat.le_of_ble_eq_true q; omega]
  rfl
theorem cb_22 : ∀ pc, 85 ≤ pc → cm_code 22 pc = none := by
  intro pc h
  show cd_Members_init pc = none
  unfold cd_Members_init
  rw [show Nat.blt pc 85 = false from by rw [Bool.eq_false_iff]; intro q; have := Nat.le_of_ble_eq_true q; omega]
  rfl
theorem cb_23 : ∀ pc, 186 ≤ pc → cm_code 23 pc = none := by
  intro pc h
  show cd_Members_grow pc = none
  unfold cd_Members_grow
  rw [show Nat.blt pc 186 = false from by rw [Bool.eq_false_iff]; intro q; have := Nat.le_of_ble_eq_true q; omega]
  rfl
theorem cb_24 : ∀ pc, 125 ≤ pc → cm_code 24 pc = none := by
  intro pc h
  show cd_Members_multiplyByTable pc = none
  unfold cd_Members_multiplyByTable
  rw [show Nat.blt pc 125 = false from by rw [Bool.eq_false_iff]; intro q; have := Nat.le_of_ble_eq_true q; omega]
  rfl
theorem cb_25 : ∀ pc, 77 ≤ pc → cm_code 25 pc = none := by
  intro pc h
  show cd_Members_findCandidate pc = none
  unfold cd_Members_findCandidate
  rw [show Nat.blt pc 77 = false from by rw [Bool.eq_false_iff]; intro q; have := Nat.le_of_ble_eq_true q; omega]
  rfl
theorem cb_26 : ∀ pc, 80 ≤ pc → cm_code 26 pc = none := by
  intro pc h
  show cd_Members_fillProducts pc = none
  unfold cd_Members_fillProducts
  rw [show Nat.blt pc 80 = false from by rw [Bool.eq_false_iff]; intro q; have := Nat.le_of_ble_eq_true q; omega]
  rfl
theorem cb_27 : ∀ pc, 72 ≤ pc → cm_code 27 pc = none := by
  intro pc h
  show cd_Members_fillOrders pc = none
  unfold cd_Members_fillOrders
  rw [show Nat.blt pc 72 = false from by rw [Bool.eq_false_iff]; intro q; have := Nat.le_of_ble_eq_true q; omega]
  rfl
theorem cb_28 : ∀ pc, 31 ≤ pc → cm_code 28 pc = none := by
  intro pc h
  show cd_Members_lots pc = none
  unfold cd_Members_lots
  rw [show Nat.blt pc 31 = false from by rw [Bool.eq_false_iff]; intro q; have := Nat.le_of_ble_eq_true q; omega]
  rfl
theorem cb_29 : ∀ pc, 52 ≤ pc → cm_code 29 pc = none := by
  intro pc h
  show cd_Members_isFirstOfLot pc = none
  unfold cd_Members_isFirstOfLot
  rw [show Nat.blt pc 52 = false from by rw [Bool.eq_false_iff]; intro q; have := Nat.le_of_ble_eq_true q; omega]
  rfl
theorem cb_30 : ∀ pc, 60 ≤ pc → cm_code 30 pc = none := by
  intro pc h
  show cd_Members_commonPower pc = none
  unfold cd_Members_commonPower
  rw [show Nat.blt pc 60 = false from by rw [Bool.eq_false_iff]; intro q; have := Nat.le_of_ble_eq_true q; omega]
  rfl
theorem cb_31 : ∀ pc, 58 ≤ pc → cm_code 31 pc = none := by
  intro pc h
  show cd_Members_isEitherOrder pc = none
  unfold cd_Members_isEitherOrder
  rw [show Nat.blt pc 58 = false from by rw [Bool.eq_false_iff]; intro q; have := Nat.le_of_ble_eq_true q; omega]
  rfl
theorem cb_32 : ∀ pc, 45 ≤ pc → cm_code 32 pc = none := by
  intro pc h
  show cd_Members_trace pc = none
  unfold cd_Members_trace
  rw [show Nat.blt pc 45 = false from by rw [Bool.eq_false_iff]; intro q; have := Nat.le_of_ble_eq_true q; omega]
  rfl
theorem cb_33 : ∀ pc, 139 ≤ pc → cm_code 33 pc = none := by
  intro pc h
  show cd_Members_middle pc = none
  unfold cd_Members_middle
  rw [show Nat.blt pc 139 = false from by rw [Bool.eq_false_iff]; intro q; have := Nat.le_of_ble_eq_true q; omega]
  rfl
theorem cb_34 : ∀ pc, 72 ≤ pc → cm_code 34 pc = none := by
  intro pc h
  show cd_Mover_init pc = none
  unfold cd_Mover_init
  rw [show Nat.blt pc 72 = false from by rw [Bool.eq_false_iff]; intro q; have := Nat.le_of_ble_eq_true q; omega]
  rfl
theorem cb_35 : ∀ pc, 11 ≤ pc → cm_code 35 pc = none := by
  intro pc h
  show cd_Mover_begin pc = none
  unfold cd_Mover_begin
  rw [show Nat.blt pc 11 = false from by rw [Bool.eq_false_iff]; intro q; have := Nat.le_of_ble_eq_true q; omega]
  rfl
theorem cb_36 : ∀ pc, 166 ≤ pc → cm_code 36 pc = none := by
  intro pc h
  show cd_Mover_use pc = none
  unfold cd_Mover_use
  rw [show Nat.blt pc 166 = false from by rw [Bool.eq_false_iff]; intro q; have := Nat.le_of_ble_eq_true q; omega]
  rfl
theorem cb_37 : ∀ pc, 63 ≤ pc → cm_code 37 pc = none := by
  intro pc h
  show cd_Mover_addAllMoved pc = none
  unfold cd_Mover_addAllMoved
  rw [show Nat.blt pc 63 = false from by rw [Bool.eq_false_iff]; intro q; have := Nat.le_of_ble_eq_true q; omega]
  rfl
theorem cb_38 : ∀ pc, 191 ≤ pc → cm_code 38 pc = none := by
  intro pc h
  show cd_Mover_addMoved pc = none
  unfold cd_Mover_addMoved
  rw [show Nat.blt pc 191 = false from by rw [Bool.eq_false_iff]; intro q; have := Nat.le_of_ble_eq_true q; omega]
  rfl
theorem cb_39 : ∀ pc, 222 ≤ pc → cm_code 39 pc = none := by
  intro pc h
  show cd_Mover_addStraight pc = none
  unfold cd_Mover_addStraight
  rw [show Nat.blt pc 222 = false from by rw [Bool.eq_false_iff]; intro q; have := Nat.le_of_ble_eq_true q; omega]
  rfl
theorem cb_40 : ∀ pc, 179 ≤ pc → cm_code 40 pc = none := by
  intro pc h
  show cd_Mover_growLastPowers pc = none
  unfold cd_Mover_growLastPowers
  rw [show Nat.blt pc 179 = false from by rw [Bool.eq_false_iff]; intro q; have := Nat.le_of_ble_eq_true q; omega]
  rfl
theorem cb_41 : ∀ pc, 177 ≤ pc → cm_code 41 pc = none := by
  intro pc h
  show cd_Mover_moveBlock pc = none
  unfold cd_Mover_moveBlock
  rw [show Nat.blt pc 177 = false from by rw [Bool.eq_false_iff]; intro q; have := Nat.le_of_ble_eq_true q; omega]
  rfl
theorem cb_42 : ∀ pc, 197 ≤ pc → cm_code 42 pc = none := by
  intro pc h
  show cd_Mover_timesForm pc = none
  unfold cd_Mover_timesForm
  rw [show Nat.blt pc 197 = false from by rw [Bool.eq_false_iff]; intro q; have := Nat.le_of_ble_eq_true q; omega]
  rfl
theorem cb_43 : ∀ pc, 12 ≤ pc → cm_code 43 pc = none := by
  intro pc h
  show cd_Piece_init pc = none
  unfold cd_Piece_init
  rw [show Nat.blt pc 12 = false from by rw [Bool.eq_false_iff]; intro q; have := Nat.le_of_ble_eq_true q; omega]
  rfl
theorem cb_44 : ∀ pc, 16 ≤ pc → cm_code 44 pc = none := by
  intro pc h
  show cd_Piece_put pc = none
  unfold cd_Piece_put
  rw [show Nat.blt pc 16 = false from by rw [Bool.eq_false_iff]; intro q; have := Nat.le_of_ble_eq_true q; omega]
  rfl
theorem cb_45 : ∀ pc, 88 ≤ pc → cm_code 45 pc = none := by
  intro pc h
  show cd_Search_init pc = none
  unfold cd_Search_init
  rw [show Nat.blt pc 88 = false from by rw [Bool.eq_false_iff]; intro q; have := Nat.le_of_ble_eq_true q; omega]
  rfl
theorem cb_46 : ∀ pc, 24 ≤ pc → cm_code 46 pc = none := by
  intro pc h
  show cd_Search_begin pc = none
  unfold cd_Search_begin
  rw [show Nat.blt pc 24 = false from by rw [Bool.eq_false_iff]; intro q; have := Nat.le_of_ble_eq_true q; omega]
  rfl
theorem cb_47 : ∀ pc, 130 ≤ pc → cm_code 47 pc = none := by
  intro pc h
  show cd_Search_find pc = none
  unfold cd_Search_find
  rw [show Nat.blt pc 130 = false from by rw [Bool.eq_false_iff]; intro q; have := Nat.le_of_ble_eq_true q; omega]
  rfl
theorem cb_48 : ∀ pc, 59 ≤ pc → cm_code 48 pc = none := by
  intro pc h
  show cd_Search_addCandidates pc = none
  unfold cd_Search_addCandidates
  rw [show Nat.blt pc 59 = false from by rw [Bool.eq_false_iff]; intro q; have := Nat.le_of_ble_eq_true q; omega]
  rfl
theorem cb_49 : ∀ pc, 67 ≤ pc → cm_code 49 pc = none := by
  intro pc h
  show cd_Search_tryTriples pc = none
  unfold cd_Search_tryTriples
  rw [show Nat.blt pc 67 = false from by rw [Bool.eq_false_iff]; intro q; have := Nat.le_of_ble_eq_true q; omega]
  rfl
theorem cb_50 : ∀ pc, 130 ≤ pc → cm_code 50 pc = none := by
  intro pc h
  show cd_Search_tryPairs pc = none
  unfold cd_Search_tryPairs
  rw [show Nat.blt pc 130 = false from by rw [Bool.eq_false_iff]; intro q; have := Nat.le_of_ble_eq_true q; omega]
  rfl
theorem cb_51 : ∀ pc, 68 ≤ pc → cm_code 51 pc = none := by
  intro pc h
  show cd_Search_choose pc = none
  unfold cd_Search_choose
  rw [show Nat.blt pc 68 = false from by rw [Bool.eq_false_iff]; intro q; have := Nat.le_of_ble_eq_true q; omega]
  rfl
theorem cb_52 : ∀ pc, 252 ≤ pc → cm_code 52 pc = none := by
  intro pc h
  show cd_Search_isSpanning pc = none
  unfold cd_Search_isSpanning
  rw [show Nat.blt pc 252 = false from by rw [Bool.eq_false_iff]; intro q; have := Nat.le_of_ble_eq_true q; omega]
  rfl
theorem cb_53 : ∀ pc, 125 ≤ pc → cm_code 53 pc = none := by
  intro pc h
  show cd_Search_isCornerMissing pc = none
  unfold cd_Search_isCornerMissing
  rw [show Nat.blt pc 125 = false from by rw [Bool.eq_false_iff]; intro q; have := Nat.le_of_ble_eq_true q; omega]
  rfl
theorem cb_54 : ∀ pc, 105 ≤ pc → cm_code 54 pc = none := by
  intro pc h
  show cd_Search_putSpread pc = none
  unfold cd_Search_putSpread
  rw [show Nat.blt pc 105 = false from by rw [Bool.eq_false_iff]; intro q; have := Nat.le_of_ble_eq_true q; omega]
  rfl
theorem cb_55 : ∀ pc, 17 ≤ pc → cm_code 55 pc = none := by
  intro pc h
  show cd_Reader_init pc = none
  unfold cd_Reader_init
  rw [show Nat.blt pc 17 = false from by rw [Bool.eq_false_iff]; intro q; have := Nat.le_of_ble_eq_true q; omega]
  rfl
theorem cb_56 : ∀ pc, 20 ≤ pc → cm_code 56 pc = none := by
  intro pc h
  show cd_Reader_open pc = none
  unfold cd_Reader_open
  rw [show Nat.blt pc 20 = false from by rw [Bool.eq_false_iff]; intro q; have := Nat.le_of_ble_eq_true q; omega]
  rfl
theorem cb_57 : ∀ pc, 144 ≤ pc → cm_code 57 pc = none := by
  intro pc h
  show cd_Reader_advance pc = none
  unfold cd_Reader_advance
  rw [show Nat.blt pc 144 = false from by rw [Bool.eq_false_iff]; intro q; have := Nat.le_of_ble_eq_true q; omega]
  rfl
theorem cb_58 : ∀ pc, 22 ≤ pc → cm_code 58 pc = none := by
  intro pc h
  show cd_Reader_refuse pc = none
  unfold cd_Reader_refuse
  rw [show Nat.blt pc 22 = false from by rw [Bool.eq_false_iff]; intro q; have := Nat.le_of_ble_eq_true q; omega]
  rfl
theorem cb_59 : ∀ pc, 97 ≤ pc → cm_code 59 pc = none := by
  intro pc h
  show cd_Reader_takeDigits pc = none
  unfold cd_Reader_takeDigits
  rw [show Nat.blt pc 97 = false from by rw [Bool.eq_false_iff]; intro q; have := Nat.le_of_ble_eq_true q; omega]
  rfl
theorem cb_60 : ∀ pc, 18 ≤ pc → cm_code 60 pc = none := by
  intro pc h
  show cd_Reader_isDigit pc = none
  unfold cd_Reader_isDigit
  rw [show Nat.blt pc 18 = false from by rw [Bool.eq_false_iff]; intro q; have := Nat.le_of_ble_eq_true q; omega]
  rfl
theorem cb_61 : ∀ pc, 104 ≤ pc → cm_code 61 pc = none := by
  intro pc h
  show cd_Reader_isSign pc = none
  unfold cd_Reader_isSign
  rw [show Nat.blt pc 104 = false from by rw [Bool.eq_false_iff]; intro q; have := Nat.le_of_ble_eq_true q; omega]
  rfl
theorem cb_62 : ∀ pc, 93 ≤ pc → cm_code 62 pc = none := by
  intro pc h
  show cd_Reader_readTables pc = none
  unfold cd_Reader_readTables
  rw [show Nat.blt pc 93 = false from by rw [Bool.eq_false_iff]; intro q; have := Nat.le_of_ble_eq_true q; omega]
  rfl
theorem cb_63 : ∀ pc, 61 ≤ pc → cm_code 63 pc = none := by
  intro pc h
  show cd_Reader_readTable pc = none
  unfold cd_Reader_readTable
  rw [show Nat.blt pc 61 = false from by rw [Bool.eq_false_iff]; intro q; have := Nat.le_of_ble_eq_true q; omega]
  rfl
theorem cb_64 : ∀ pc, 173 ≤ pc → cm_code 64 pc = none := by
  intro pc h
  show cd_Reader_readRow pc = none
  unfold cd_Reader_readRow
  rw [show Nat.blt pc 173 = false from by rw [Bool.eq_false_iff]; intro q; have := Nat.le_of_ble_eq_true q; omega]
  rfl
theorem cb_65 : ∀ pc, 53 ≤ pc → cm_code 65 pc = none := by
  intro pc h
  show cd_Reader_haveInverses pc = none
  unfold cd_Reader_haveInverses
  rw [show Nat.blt pc 53 = false from by rw [Bool.eq_false_iff]; intro q; have := Nat.le_of_ble_eq_true q; omega]
  rfl
theorem cb_66 : ∀ pc, 91 ≤ pc → cm_code 66 pc = none := by
  intro pc h
  show cd_Rewriter_init pc = none
  unfold cd_Rewriter_init
  rw [show Nat.blt pc 91 = false from by rw [Bool.eq_false_iff]; intro q; have := Nat.le_of_ble_eq_true q; omega]
  rfl
theorem cb_67 : ∀ pc, 31 ≤ pc → cm_code 67 pc = none := by
  intro pc h
  show cd_Rewriter_begin pc = none
  unfold cd_Rewriter_begin
  rw [show Nat.blt pc 31 = false from by rw [Bool.eq_false_iff]; intro q; have := Nat.le_of_ble_eq_true q; omega]
  rfl
theorem cb_68 : ∀ pc, 97 ≤ pc → cm_code 68 pc = none := by
  intro pc h
  show cd_Rewriter_extendToAll pc = none
  unfold cd_Rewriter_extendToAll
  rw [show Nat.blt pc 97 = false from by rw [Bool.eq_false_iff]; intro q; have := Nat.le_of_ble_eq_true q; omega]
  rfl
theorem cb_69 : ∀ pc, 37 ≤ pc → cm_code 69 pc = none := by
  intro pc h
  show cd_Rewriter_extend pc = none
  unfold cd_Rewriter_extend
  rw [show Nat.blt pc 37 = false from by rw [Bool.eq_false_iff]; intro q; have := Nat.le_of_ble_eq_true q; omega]
  rfl
theorem cb_70 : ∀ pc, 59 ≤ pc → cm_code 70 pc = none := by
  intro pc h
  show cd_Rewriter_fillGrade pc = none
  unfold cd_Rewriter_fillGrade
  rw [show Nat.blt pc 59 = false from by rw [Bool.eq_false_iff]; intro q; have := Nat.le_of_ble_eq_true q; omega]
  rfl
theorem cb_71 : ∀ pc, 299 ≤ pc → cm_code 71 pc = none := by
  intro pc h
  show cd_Rewriter_addProducts pc = none
  unfold cd_Rewriter_addProducts
  rw [show Nat.blt pc 299 = false from by rw [Bool.eq_false_iff]; intro q; have := Nat.le_of_ble_eq_true q; omega]
  rfl
theorem cb_72 : ∀ pc, 57 ≤ pc → cm_code 72 pc = none := by
  intro pc h
  show cd_Rewriter_putSum pc = none
  unfold cd_Rewriter_putSum
  rw [show Nat.blt pc 57 = false from by rw [Bool.eq_false_iff]; intro q; have := Nat.le_of_ble_eq_true q; omega]
  rfl
theorem cb_73 : ∀ pc, 146 ≤ pc → cm_code 73 pc = none := by
  intro pc h
  show cd_Rewriter_addSecondaries pc = none
  unfold cd_Rewriter_addSecondaries
  rw [show Nat.blt pc 146 = false from by rw [Bool.eq_false_iff]; intro q; have := Nat.le_of_ble_eq_true q; omega]
  rfl
theorem cb_74 : ∀ pc, 113 ≤ pc → cm_code 74 pc = none := by
  intro pc h
  show cd_Rewriter_tell pc = none
  unfold cd_Rewriter_tell
  rw [show Nat.blt pc 113 = false from by rw [Bool.eq_false_iff]; intro q; have := Nat.le_of_ble_eq_true q; omega]
  rfl
theorem cb_75 : ∀ pc, 192 ≤ pc → cm_code 75 pc = none := by
  intro pc h
  show cd_Rewriter_relate pc = none
  unfold cd_Rewriter_relate
  rw [show Nat.blt pc 192 = false from by rw [Bool.eq_false_iff]; intro q; have := Nat.le_of_ble_eq_true q; omega]
  rfl
theorem cb_76 : ∀ pc, 129 ≤ pc → cm_code 76 pc = none := by
  intro pc h
  show cd_Rewriter_placeOf pc = none
  unfold cd_Rewriter_placeOf
  rw [show Nat.blt pc 129 = false from by rw [Bool.eq_false_iff]; intro q; have := Nat.le_of_ble_eq_true q; omega]
  rfl
theorem cb_77 : ∀ pc, 230 ≤ pc → cm_code 77 pc = none := by
  intro pc h
  show cd_Shape_init pc = none
  unfold cd_Shape_init
  rw [show Nat.blt pc 230 = false from by rw [Bool.eq_false_iff]; intro q; have := Nat.le_of_ble_eq_true q; omega]
  rfl
theorem cb_78 : ∀ pc, 44 ≤ pc → cm_code 78 pc = none := by
  intro pc h
  show cd_Shape_power pc = none
  unfold cd_Shape_power
  rw [show Nat.blt pc 44 = false from by rw [Bool.eq_false_iff]; intro q; have := Nat.le_of_ble_eq_true q; omega]
  rfl
theorem cb_79 : ∀ pc, 35 ≤ pc → cm_code 79 pc = none := by
  intro pc h
  show cd_Shape_isZero pc = none
  unfold cd_Shape_isZero
  rw [show Nat.blt pc 35 = false from by rw [Bool.eq_false_iff]; intro q; have := Nat.le_of_ble_eq_true q; omega]
  rfl
theorem cb_80 : ∀ pc, 48 ≤ pc → cm_code 80 pc = none := by
  intro pc h
  show cd_Shape_degreeOf pc = none
  unfold cd_Shape_degreeOf
  rw [show Nat.blt pc 48 = false from by rw [Bool.eq_false_iff]; intro q; have := Nat.le_of_ble_eq_true q; omega]
  rfl
theorem cb_81 : ∀ pc, 29 ≤ pc → cm_code 81 pc = none := by
  intro pc h
  show cd_Shape_termsOf pc = none
  unfold cd_Shape_termsOf
  rw [show Nat.blt pc 29 = false from by rw [Bool.eq_false_iff]; intro q; have := Nat.le_of_ble_eq_true q; omega]
  rfl
theorem cb_82 : ∀ pc, 39 ≤ pc → cm_code 82 pc = none := by
  intro pc h
  show cd_Shape_isOneDegree pc = none
  unfold cd_Shape_isOneDegree
  rw [show Nat.blt pc 39 = false from by rw [Bool.eq_false_iff]; intro q; have := Nat.le_of_ble_eq_true q; omega]
  rfl
theorem cb_83 : ∀ pc, 177 ≤ pc → cm_code 83 pc = none := by
  intro pc h
  show cd_Shape_addProduct pc = none
  unfold cd_Shape_addProduct
  rw [show Nat.blt pc 177 = false from by rw [Bool.eq_false_iff]; intro q; have := Nat.le_of_ble_eq_true q; omega]
  rfl
theorem cb_84 : ∀ pc, 152 ≤ pc → cm_code 84 pc = none := by
  intro pc h
  show cd_Shape_multiply pc = none
  unfold cd_Shape_multiply
  rw [show Nat.blt pc 152 = false from by rw [Bool.eq_false_iff]; intro q; have := Nat.le_of_ble_eq_true q; omega]
  rfl
theorem cb_85 : ∀ pc, 20 ≤ pc → cm_code 85 pc = none := by
  intro pc h
  show cd_Sum_init pc = none
  unfold cd_Sum_init
  rw [show Nat.blt pc 20 = false from by rw [Bool.eq_false_iff]; intro q; have := Nat.le_of_ble_eq_true q; omega]
  rfl
theorem cb_86 : ∀ pc, 137 ≤ pc → cm_code 86 pc = none := by
  intro pc h
  show cd_Sum_readAll pc = none
  unfold cd_Sum_readAll
  rw [show Nat.blt pc 137 = false from by rw [Bool.eq_false_iff]; intro q; have := Nat.le_of_ble_eq_true q; omega]
  rfl
theorem cb_87 : ∀ pc, 147 ≤ pc → cm_code 87 pc = none := by
  intro pc h
  show cd_Sum_readSum pc = none
  unfold cd_Sum_readSum
  rw [show Nat.blt pc 147 = false from by rw [Bool.eq_false_iff]; intro q; have := Nat.le_of_ble_eq_true q; omega]
  rfl
theorem cb_88 : ∀ pc, 92 ≤ pc → cm_code 88 pc = none := by
  intro pc h
  show cd_Sum_readProduct pc = none
  unfold cd_Sum_readProduct
  rw [show Nat.blt pc 92 = false from by rw [Bool.eq_false_iff]; intro q; have := Nat.le_of_ble_eq_true q; omega]
  rfl
theorem cb_89 : ∀ pc, 103 ≤ pc → cm_code 89 pc = none := by
  intro pc h
  show cd_Sum_readPower pc = none
  unfold cd_Sum_readPower
  rw [show Nat.blt pc 103 = false from by rw [Bool.eq_false_iff]; intro q; have := Nat.le_of_ble_eq_true q; omega]
  rfl
theorem cb_90 : ∀ pc, 157 ≤ pc → cm_code 90 pc = none := by
  intro pc h
  show cd_Sum_readPart pc = none
  unfold cd_Sum_readPart
  rw [show Nat.blt pc 157 = false from by rw [Bool.eq_false_iff]; intro q; have := Nat.le_of_ble_eq_true q; omega]
  rfl
theorem cb_91 : ∀ pc, 93 ≤ pc → cm_code 91 pc = none := by
  intro pc h
  show cd_Sum_readBracket pc = none
  unfold cd_Sum_readBracket
  rw [show Nat.blt pc 93 = false from by rw [Bool.eq_false_iff]; intro q; have := Nat.le_of_ble_eq_true q; omega]
  rfl
theorem cb_92 : ∀ pc, 26 ≤ pc → cm_code 92 pc = none := by
  intro pc h
  show cd_Sum_putPart pc = none
  unfold cd_Sum_putPart
  rw [show Nat.blt pc 26 = false from by rw [Bool.eq_false_iff]; intro q; have := Nat.le_of_ble_eq_true q; omega]
  rfl
theorem cb_93 : ∀ pc, 41 ≤ pc → cm_code 93 pc = none := by
  intro pc h
  show cd_Sum_add pc = none
  unfold cd_Sum_add
  rw [show Nat.blt pc 41 = false from by rw [Bool.eq_false_iff]; intro q; have := Nat.le_of_ble_eq_true q; omega]
  rfl
theorem cb_94 : ∀ pc, 106 ≤ pc → cm_code 94 pc = none := by
  intro pc h
  show cd_Sum_multiplyBy pc = none
  unfold cd_Sum_multiplyBy
  rw [show Nat.blt pc 106 = false from by rw [Bool.eq_false_iff]; intro q; have := Nat.le_of_ble_eq_true q; omega]
  rfl
theorem cb_95 : ∀ pc, 145 ≤ pc → cm_code 95 pc = none := by
  intro pc h
  show cd_Sum_raisePart pc = none
  unfold cd_Sum_raisePart
  rw [show Nat.blt pc 145 = false from by rw [Bool.eq_false_iff]; intro q; have := Nat.le_of_ble_eq_true q; omega]
  rfl
theorem cb_96 : ∀ pc, 211 ≤ pc → cm_code 96 pc = none := by
  intro pc h
  show cd_Works_init pc = none
  unfold cd_Works_init
  rw [show Nat.blt pc 211 = false from by rw [Bool.eq_false_iff]; intro q; have := Nat.le_of_ble_eq_true q; omega]
  rfl
theorem cb_97 : ∀ pc, 47 ≤ pc → cm_code 97 pc = none := by
  intro pc h
  show cd_Works_feed pc = none
  unfold cd_Works_feed
  rw [show Nat.blt pc 47 = false from by rw [Bool.eq_false_iff]; intro q; have := Nat.le_of_ble_eq_true q; omega]
  rfl
theorem cb_98 : ∀ pc, 159 ≤ pc → cm_code 98 pc = none := by
  intro pc h
  show cd_Works_tables pc = none
  unfold cd_Works_tables
  rw [show Nat.blt pc 159 = false from by rw [Bool.eq_false_iff]; intro q; have := Nat.le_of_ble_eq_true q; omega]
  rfl
theorem cb_99 : ∀ pc, 100 ≤ pc → cm_code 99 pc = none := by
  intro pc h
  show cd_Works_polynomial pc = none
  unfold cd_Works_polynomial
  rw [show Nat.blt pc 100 = false from by rw [Bool.eq_false_iff]; intro q; have := Nat.le_of_ble_eq_true q; omega]
  rfl
theorem cb_100 : ∀ pc, 98 ≤ pc → cm_code 100 pc = none := by
  intro pc h
  show cd_Works_group pc = none
  unfold cd_Works_group
  rw [show Nat.blt pc 98 = false from by rw [Bool.eq_false_iff]; intro q; have := Nat.le_of_ble_eq_true q; omega]
  rfl
theorem cb_101 : ∀ pc, 59 ≤ pc → cm_code 101 pc = none := by
  intro pc h
  show cd_Works_member pc = none
  unfold cd_Works_member
  rw [show Nat.blt pc 59 = false from by rw [Bool.eq_false_iff]; intro q; have := Nat.le_of_ble_eq_true q; omega]
  rfl
theorem cb_102 : ∀ pc, 33 ≤ pc → cm_code 102 pc = none := by
  intro pc h
  show cd_Works_times pc = none
  unfold cd_Works_times
  rw [show Nat.blt pc 33 = false from by rw [Bool.eq_false_iff]; intro q; have := Nat.le_of_ble_eq_true q; omega]
  rfl
theorem cb_103 : ∀ pc, 93 ≤ pc → cm_code 103 pc = none := by
  intro pc h
  show cd_Works_about pc = none
  unfold cd_Works_about
  rw [show Nat.blt pc 93 = false from by rw [Bool.eq_false_iff]; intro q; have := Nat.le_of_ble_eq_true q; omega]
  rfl
theorem cb_104 : ∀ pc, 126 ≤ pc → cm_code 104 pc = none := by
  intro pc h
  show cd_Works_of pc = none
  unfold cd_Works_of
  rw [show Nat.blt pc 126 = false from by rw [Bool.eq_false_iff]; intro q; have := Nat.le_of_ble_eq_true q; omega]
  rfl
theorem cb_105 : ∀ pc, 100 ≤ pc → cm_code 105 pc = none := by
  intro pc h
  show cd_Works_factor pc = none
  unfold cd_Works_factor
  rw [show Nat.blt pc 100 = false from by rw [Bool.eq_false_iff]; intro q; have := Nat.le_of_ble_eq_true q; omega]
  rfl
theorem cb_106 : ∀ pc, 152 ≤ pc → cm_code 106 pc = none := by
  intro pc h
  show cd_Works_term pc = none
  unfold cd_Works_term
  rw [show Nat.blt pc 152 = false from by rw [Bool.eq_false_iff]; intro q; have := Nat.le_of_ble_eq_true q; omega]
  rfl
theorem cb_107 : ∀ pc, 63 ≤ pc → cm_code 107 pc = none := by
  intro pc h
  show cd_Works_moved pc = none
  unfold cd_Works_moved
  rw [show Nat.blt pc 63 = false from by rw [Bool.eq_false_iff]; intro q; have := Nat.le_of_ble_eq_true q; omega]
  rfl
theorem cb_108 : ∀ pc, 133 ≤ pc → cm_code 108 pc = none := by
  intro pc h
  show cd_Works_average pc = none
  unfold cd_Works_average
  rw [show Nat.blt pc 133 = false from by rw [Bool.eq_false_iff]; intro q; have := Nat.le_of_ble_eq_true q; omega]
  rfl
theorem cb_109 : ∀ pc, 94 ≤ pc → cm_code 109 pc = none := by
  intro pc h
  show cd_Works_plus pc = none
  unfold cd_Works_plus
  rw [show Nat.blt pc 94 = false from by rw [Bool.eq_false_iff]; intro q; have := Nat.le_of_ble_eq_true q; omega]
  rfl
theorem cb_110 : ∀ pc, 87 ≤ pc → cm_code 110 pc = none := by
  intro pc h
  show cd_Works_product pc = none
  unfold cd_Works_product
  rw [show Nat.blt pc 87 = false from by rw [Bool.eq_false_iff]; intro q; have := Nat.le_of_ble_eq_true q; omega]
  rfl
theorem cb_111 : ∀ pc, 21 ≤ pc → cm_code 111 pc = none := by
  intro pc h
  show cd_Works_series pc = none
  unfold cd_Works_series
  rw [show Nat.blt pc 21 = false from by rw [Bool.eq_false_iff]; intro q; have := Nat.le_of_ble_eq_true q; omega]
  rfl
theorem cb_112 : ∀ pc, 90 ≤ pc → cm_code 112 pc = none := by
  intro pc h
  show cd_Works_base pc = none
  unfold cd_Works_base
  rw [show Nat.blt pc 90 = false from by rw [Bool.eq_false_iff]; intro q; have := Nat.le_of_ble_eq_true q; omega]
  rfl
theorem cb_113 : ∀ pc, 177 ≤ pc → cm_code 113 pc = none := by
  intro pc h
  show cd_Works_isSystem pc = none
  unfold cd_Works_isSystem
  rw [show Nat.blt pc 177 = false from by rw [Bool.eq_false_iff]; intro q; have := Nat.le_of_ble_eq_true q; omega]
  rfl
theorem cb_114 : ∀ pc, 62 ≤ pc → cm_code 114 pc = none := by
  intro pc h
  show cd_Works_primary pc = none
  unfold cd_Works_primary
  rw [show Nat.blt pc 62 = false from by rw [Bool.eq_false_iff]; intro q; have := Nat.le_of_ble_eq_true q; omega]
  rfl
theorem cb_115 : ∀ pc, 19 ≤ pc → cm_code 115 pc = none := by
  intro pc h
  show cd_Works_secondaries pc = none
  unfold cd_Works_secondaries
  rw [show Nat.blt pc 19 = false from by rw [Bool.eq_false_iff]; intro q; have := Nat.le_of_ble_eq_true q; omega]
  rfl
theorem cb_116 : ∀ pc, 59 ≤ pc → cm_code 116 pc = none := by
  intro pc h
  show cd_Works_secondary pc = none
  unfold cd_Works_secondary
  rw [show Nat.blt pc 59 = false from by rw [Bool.eq_false_iff]; intro q; have := Nat.le_of_ble_eq_true q; omega]
  rfl
theorem cb_117 : ∀ pc, 55 ≤ pc → cm_code 117 pc = none := by
  intro pc h
  show cd_Works_numerator pc = none
  unfold cd_Works_numerator
  rw [show Nat.blt pc 55 = false from by rw [Bool.eq_false_iff]; intro q; have := Nat.le_of_ble_eq_true q; omega]
  rfl
theorem cb_118 : ∀ pc, 73 ≤ pc → cm_code 118 pc = none := by
  intro pc h
  show cd_Works_rewrite pc = none
  unfold cd_Works_rewrite
  rw [show Nat.blt pc 73 = false from by rw [Bool.eq_false_iff]; intro q; have := Nat.le_of_ble_eq_true q; omega]
  rfl
theorem cb_119 : ∀ pc, 58 ≤ pc → cm_code 119 pc = none := by
  intro pc h
  show cd_Works_rewritten pc = none
  unfold cd_Works_rewritten
  rw [show Nat.blt pc 58 = false from by rw [Bool.eq_false_iff]; intro q; have := Nat.le_of_ble_eq_true q; omega]
  rfl
theorem cb_120 : ∀ pc, 152 ≤ pc → cm_code 120 pc = none := by
  intro pc h
  show cd_Works_relation pc = none
  unfold cd_Works_relation
  rw [show Nat.blt pc 152 = false from by rw [Bool.eq_false_iff]; intro q; have := Nat.le_of_ble_eq_true q; omega]
  rfl
theorem cb_121 : ∀ pc, 36 ≤ pc → cm_code 121 pc = none := by
  intro pc h
  show cd_Works_count pc = none
  unfold cd_Works_count
  rw [show Nat.blt pc 36 = false from by rw [Bool.eq_false_iff]; intro q; have := Nat.le_of_ble_eq_true q; omega]
  rfl
theorem cb_122 : ∀ pc, 57 ≤ pc → cm_code 122 pc = none := by
  intro pc h
  show cd_Works_startAgain pc = none
  unfold cd_Works_startAgain
  rw [show Nat.blt pc 57 = false from by rw [Bool.eq_false_iff]; intro q; have := Nat.le_of_ble_eq_true q; omega]
  rfl
theorem cb_123 : ∀ pc, 37 ≤ pc → cm_code 123 pc = none := by
  intro pc h
  show cd_Works_putBytes pc = none
  unfold cd_Works_putBytes
  rw [show Nat.blt pc 37 = false from by rw [Bool.eq_false_iff]; intro q; have := Nat.le_of_ble_eq_true q; omega]
  rfl
theorem cb_124 : ∀ pc, 16 ≤ pc → cm_code 124 pc = none := by
  intro pc h
  show cd_Works_isKept pc = none
  unfold cd_Works_isKept
  rw [show Nat.blt pc 16 = false from by rw [Bool.eq_false_iff]; intro q; have := Nat.le_of_ble_eq_true q; omega]
  rfl
theorem cb_125 : ∀ pc, 16 ≤ pc → cm_code 125 pc = none := by
  intro pc h
  show cd_Works_isPower pc = none
  unfold cd_Works_isPower
  rw [show Nat.blt pc 16 = false from by rw [Bool.eq_false_iff]; intro q; have := Nat.le_of_ble_eq_true q; omega]
  rfl
theorem cb_126 : ∀ pc, 21 ≤ pc → cm_code 126 pc = none := by
  intro pc h
  show cd_Works_isMember pc = none
  unfold cd_Works_isMember
  rw [show Nat.blt pc 21 = false from by rw [Bool.eq_false_iff]; intro q; have := Nat.le_of_ble_eq_true q; omega]
  rfl
theorem cb_127 : ∀ pc, 21 ≤ pc → cm_code 127 pc = none := by
  intro pc h
  show cd_Works_isSecondary pc = none
  unfold cd_Works_isSecondary
  rw [show Nat.blt pc 21 = false from by rw [Bool.eq_false_iff]; intro q; have := Nat.le_of_ble_eq_true q; omega]
  rfl
theorem cb_128 : ∀ pc, 45 ≤ pc → cm_code 128 pc = none := by
  intro pc h
  show cd_Works_isProduct pc = none
  unfold cd_Works_isProduct
  rw [show Nat.blt pc 45 = false from by rw [Bool.eq_false_iff]; intro q; have := Nat.le_of_ble_eq_true q; omega]
  rfl
theorem cb_129 : ∀ pc, 34 ≤ pc → cm_code 129 pc = none := by
  intro pc h
  show cd_Works_keepFresh pc = none
  unfold cd_Works_keepFresh
  rw [show Nat.blt pc 34 = false from by rw [Bool.eq_false_iff]; intro q; have := Nat.le_of_ble_eq_true q; omega]
  rfl
theorem cb_130 : ∀ pc, 63 ≤ pc → cm_code 130 pc = none := by
  intro pc h
  show cd_Works_isMovedToItself pc = none
  unfold cd_Works_isMovedToItself
  rw [show Nat.blt pc 63 = false from by rw [Bool.eq_false_iff]; intro q; have := Nat.le_of_ble_eq_true q; omega]
  rfl
theorem cb_131 : ∀ pc, 40 ≤ pc → cm_code 131 pc = none := by
  intro pc h
  show cd_Works_isLeftAlone pc = none
  unfold cd_Works_isLeftAlone
  rw [show Nat.blt pc 40 = false from by rw [Bool.eq_false_iff]; intro q; have := Nat.le_of_ble_eq_true q; omega]
  rfl
theorem cb_132 : ∀ pc, 57 ≤ pc → cm_code 132 pc = none := by
  intro pc h
  show cd_Works_unlikeMoved pc = none
  unfold cd_Works_unlikeMoved
  rw [show Nat.blt pc 57 = false from by rw [Bool.eq_false_iff]; intro q; have := Nat.le_of_ble_eq_true q; omega]
  rfl
theorem cb_133 : ∀ pc, 43 ≤ pc → cm_code 133 pc = none := by
  intro pc h
  show cd_Works_canBeOfSystem pc = none
  unfold cd_Works_canBeOfSystem
  rw [show Nat.blt pc 43 = false from by rw [Bool.eq_false_iff]; intro q; have := Nat.le_of_ble_eq_true q; omega]
  rfl
theorem cb_134 : ∀ pc, 43 ≤ pc → cm_code 134 pc = none := by
  intro pc h
  show cd_Works_putForSystem pc = none
  unfold cd_Works_putForSystem
  rw [show Nat.blt pc 43 = false from by rw [Bool.eq_false_iff]; intro q; have := Nat.le_of_ble_eq_true q; omega]
  rfl
theorem cb_135 : ∀ pc, 21 ≤ pc → cm_code 135 pc = none := by
  intro pc h
  show cd_Works_findSecondaries pc = none
  unfold cd_Works_findSecondaries
  rw [show Nat.blt pc 21 = false from by rw [Bool.eq_false_iff]; intro q; have := Nat.le_of_ble_eq_true q; omega]
  rfl
theorem cb_136 : ∀ pc, 47 ≤ pc → cm_code 136 pc = none := by
  intro pc h
  show cd_Works_raise pc = none
  unfold cd_Works_raise
  rw [show Nat.blt pc 47 = false from by rw [Bool.eq_false_iff]; intro q; have := Nat.le_of_ble_eq_true q; omega]
  rfl
theorem cb_137 : ∀ pc, 16 ≤ pc → cm_code 137 pc = none := by
  intro pc h
  show cd_Works_divides pc = none
  unfold cd_Works_divides
  rw [show Nat.blt pc 16 = false from by rw [Bool.eq_false_iff]; intro q; have := Nat.le_of_ble_eq_true q; omega]
  rfl
theorem cb_138 : ∀ pc, 14 ≤ pc → cm_code 138 pc = none := by
  intro pc h
  show cd_Works_minor pc = none
  unfold cd_Works_minor
  rw [show Nat.blt pc 14 = false from by rw [Bool.eq_false_iff]; intro q; have := Nat.le_of_ble_eq_true q; omega]
  rfl
theorem cb_139 : ∀ pc, 137 ≤ pc → cm_code 139 pc = none := by
  intro pc h
  show cd_Works_determinant pc = none
  unfold cd_Works_determinant
  rw [show Nat.blt pc 137 = false from by rw [Bool.eq_false_iff]; intro q; have := Nat.le_of_ble_eq_true q; omega]
  rfl
theorem cb_140 : ∀ pc, 23 ≤ pc → cm_code 140 pc = none := by
  intro pc h
  show cd_Works_withRoom pc = none
  unfold cd_Works_withRoom
  rw [show Nat.blt pc 23 = false from by rw [Bool.eq_false_iff]; intro q; have := Nat.le_of_ble_eq_true q; omega]
  rfl
theorem cb_141 : ∀ pc, 5 ≤ pc → cm_code 141 pc = none := by
  intro pc h
  show cd_Model_thrown pc = none
  unfold cd_Model_thrown
  rw [show Nat.blt pc 5 = false from by rw [Bool.eq_false_iff]; intro q; have := Nat.le_of_ble_eq_true q; omega]
  rfl
theorem cb_142 : ∀ pc, 16 ≤ pc → cm_code 142 pc = none := by
  intro pc h
  show cd_Model_within pc = none
  unfold cd_Model_within
  rw [show Nat.blt pc 16 = false from by rw [Bool.eq_false_iff]; intro q; have := Nat.le_of_ble_eq_true q; omega]
  rfl
theorem cb_143 : ∀ pc, 23 ≤ pc → cm_code 143 pc = none := by
  intro pc h
  show cd_Model_of pc = none
  unfold cd_Model_of
  rw [show Nat.blt pc 23 = false from by rw [Bool.eq_false_iff]; intro q; have := Nat.le_of_ble_eq_true q; omega]
  rfl
theorem cb_144 : ∀ pc, 55 ≤ pc → cm_code 144 pc = none := by
  intro pc h
  show cd_Model_inverse pc = none
  unfold cd_Model_inverse
  rw [show Nat.blt pc 55 = false from by rw [Bool.eq_false_iff]; intro q; have := Nat.le_of_ble_eq_true q; omega]
  rfl
theorem cb_145 : ∀ pc, 24 ≤ pc → cm_code 145 pc = none := by
  intro pc h
  show cd_Model_many pc = none
  unfold cd_Model_many
  rw [show Nat.blt pc 24 = false from by rw [Bool.eq_false_iff]; intro q; have := Nat.le_of_ble_eq_true q; omega]
  rfl
theorem cb_146 : ∀ pc, 31 ≤ pc → cm_code 146 pc = none := by
  intro pc h
  show cd_Model_from pc = none
  unfold cd_Model_from
  rw [show Nat.blt pc 31 = false from by rw [Bool.eq_false_iff]; intro q; have := Nat.le_of_ble_eq_true q; omega]
  rfl
theorem cb_147 : ∀ pc, 44 ≤ pc → cm_code 147 pc = none := by
  intro pc h
  show cd_Model_at pc = none
  unfold cd_Model_at
  rw [show Nat.blt pc 44 = false from by rw [Bool.eq_false_iff]; intro q; have := Nat.le_of_ble_eq_true q; omega]
  rfl
theorem cb_148 : ∀ pc, 97 ≤ pc → cm_code 148 pc = none := by
  intro pc h
  show cd_Model_laysMonomials pc = none
  unfold cd_Model_laysMonomials
  rw [show Nat.blt pc 97 = false from by rw [Bool.eq_false_iff]; intro q; have := Nat.le_of_ble_eq_true q; omega]
  rfl
theorem cb_149 : ∀ pc, 21 ≤ pc → cm_code 149 pc = none := by
  intro pc h
  show cd_Model_degreeAt pc = none
  unfold cd_Model_degreeAt
  rw [show Nat.blt pc 21 = false from by rw [Bool.eq_false_iff]; intro q; have := Nat.le_of_ble_eq_true q; omega]
  rfl
theorem cb_150 : ∀ pc, 7 ≤ pc → cm_code 150 pc = none := by
  intro pc h
  show cd_Model_all pc = none
  unfold cd_Model_all
  rw [show Nat.blt pc 7 = false from by rw [Bool.eq_false_iff]; intro q; have := Nat.le_of_ble_eq_true q; omega]
  rfl
theorem cb_151 : ∀ pc, 30 ≤ pc → cm_code 151 pc = none := by
  intro pc h
  show cd_Model_copies pc = none
  unfold cd_Model_copies
  rw [show Nat.blt pc 30 = false from by rw [Bool.eq_false_iff]; intro q; have := Nat.le_of_ble_eq_true q; omega]
  rfl
theorem cb_152 : ∀ pc, 22 ≤ pc → cm_code 152 pc = none := by
  intro pc h
  show cd_Model_clears pc = none
  unfold cd_Model_clears
  rw [show Nat.blt pc 22 = false from by rw [Bool.eq_false_iff]; intro q; have := Nat.le_of_ble_eq_true q; omega]
  rfl
theorem cb_153 : ∀ pc, 35 ≤ pc → cm_code 153 pc = none := by
  intro pc h
  show cd_Model_degree pc = none
  unfold cd_Model_degree
  rw [show Nat.blt pc 35 = false from by rw [Bool.eq_false_iff]; intro q; have := Nat.le_of_ble_eq_true q; omega]
  rfl
theorem cb_154 : ∀ pc, 40 ≤ pc → cm_code 154 pc = none := by
  intro pc h
  show cd_Model_isNothing pc = none
  unfold cd_Model_isNothing
  rw [show Nat.blt pc 40 = false from by rw [Bool.eq_false_iff]; intro q; have := Nat.le_of_ble_eq_true q; omega]
  rfl
theorem cb_155 : ∀ pc, 171 ≤ pc → cm_code 155 pc = none := by
  intro pc h
  show cd_Model_multiplies pc = none
  unfold cd_Model_multiplies
  rw [show Nat.blt pc 171 = false from by rw [Bool.eq_false_iff]; intro q; have := Nat.le_of_ble_eq_true q; omega]
  rfl
theorem cb_156 : ∀ pc, 38 ≤ pc → cm_code 156 pc = none := by
  intro pc h
  show cd_Model_terms pc = none
  unfold cd_Model_terms
  rw [show Nat.blt pc 38 = false from by rw [Bool.eq_false_iff]; intro q; have := Nat.le_of_ble_eq_true q; omega]
  rfl
theorem cb_157 : ∀ pc, 353 ≤ pc → cm_code 157 pc = none := by
  intro pc h
  show cd_Model_init pc = none
  unfold cd_Model_init
  rw [show Nat.blt pc 353 = false from by rw [Bool.eq_false_iff]; intro q; have := Nat.le_of_ble_eq_true q; omega]
  rfl
theorem cb_158 : ∀ pc, 14 ≤ pc → cm_code 158 pc = none := by
  intro pc h
  show cd_Model_entry pc = none
  unfold cd_Model_entry
  rw [show Nat.blt pc 14 = false from by rw [Bool.eq_false_iff]; intro q; have := Nat.le_of_ble_eq_true q; omega]
  rfl
theorem cb_159 : ∀ pc, 108 ≤ pc → cm_code 159 pc = none := by
  intro pc h
  show cd_Model_times pc = none
  unfold cd_Model_times
  rw [show Nat.blt pc 108 = false from by rw [Bool.eq_false_iff]; intro q; have := Nat.le_of_ble_eq_true q; omega]
  rfl
theorem cb_160 : ∀ pc, 78 ≤ pc → cm_code 160 pc = none := by
  intro pc h
  show cd_Model_areSame pc = none
  unfold cd_Model_areSame
  rw [show Nat.blt pc 78 = false from by rw [Bool.eq_false_iff]; intro q; have := Nat.le_of_ble_eq_true q; omega]
  rfl
theorem cb_161 : ∀ pc, 30 ≤ pc → cm_code 161 pc = none := by
  intro pc h
  show cd_Model_find pc = none
  unfold cd_Model_find
  rw [show Nat.blt pc 30 = false from by rw [Bool.eq_false_iff]; intro q; have := Nat.le_of_ble_eq_true q; omega]
  rfl
theorem cb_162 : ∀ pc, 139 ≤ pc → cm_code 162 pc = none := by
  intro pc h
  show cd_Model_laysGroup pc = none
  unfold cd_Model_laysGroup
  rw [show Nat.blt pc 139 = false from by rw [Bool.eq_false_iff]; intro q; have := Nat.le_of_ble_eq_true q; omega]
  rfl
theorem cb_163 : ∀ pc, 154 ≤ pc → cm_code 163 pc = none := by
  intro pc h
  show cd_Model_determinant pc = none
  unfold cd_Model_determinant
  rw [show Nat.blt pc 154 = false from by rw [Bool.eq_false_iff]; intro q; have := Nat.le_of_ble_eq_true q; omega]
  rfl
theorem cb_164 : ∀ pc, 27 ≤ pc → cm_code 164 pc = none := by
  intro pc h
  show cd_Model_product pc = none
  unfold cd_Model_product
  rw [show Nat.blt pc 27 = false from by rw [Bool.eq_false_iff]; intro q; have := Nat.le_of_ble_eq_true q; omega]
  rfl
theorem cb_165 : ∀ pc, 19 ≤ pc → cm_code 165 pc = none := by
  intro pc h
  show cd_Model_inverseOf pc = none
  unfold cd_Model_inverseOf
  rw [show Nat.blt pc 19 = false from by rw [Bool.eq_false_iff]; intro q; have := Nat.le_of_ble_eq_true q; omega]
  rfl
theorem cb_166 : ∀ pc, 23 ≤ pc → cm_code 166 pc = none := by
  intro pc h
  show cd_Model_orderOf pc = none
  unfold cd_Model_orderOf
  rw [show Nat.blt pc 23 = false from by rw [Bool.eq_false_iff]; intro q; have := Nat.le_of_ble_eq_true q; omega]
  rfl
theorem cb_167 : ∀ pc, 12 ≤ pc → cm_code 167 pc = none := by
  intro pc h
  show cd_Model_isMember pc = none
  unfold cd_Model_isMember
  rw [show Nat.blt pc 12 = false from by rw [Bool.eq_false_iff]; intro q; have := Nat.le_of_ble_eq_true q; omega]
  rfl
theorem cb_168 : ∀ pc, 23 ≤ pc → cm_code 168 pc = none := by
  intro pc h
  show cd_Model_divisor pc = none
  unfold cd_Model_divisor
  rw [show Nat.blt pc 23 = false from by rw [Bool.eq_false_iff]; intro q; have := Nat.le_of_ble_eq_true q; omega]
  rfl
theorem cb_169 : ∀ pc, 83 ≤ pc → cm_code 169 pc = none := by
  intro pc h
  show cd_Model_classes pc = none
  unfold cd_Model_classes
  rw [show Nat.blt pc 83 = false from by rw [Bool.eq_false_iff]; intro q; have := Nat.le_of_ble_eq_true q; omega]
  rfl
theorem cb_170 : ∀ pc, 38 ≤ pc → cm_code 170 pc = none := by
  intro pc h
  show cd_Model_power pc = none
  unfold cd_Model_power
  rw [show Nat.blt pc 38 = false from by rw [Bool.eq_false_iff]; intro q; have := Nat.le_of_ble_eq_true q; omega]
  rfl
theorem cb_171 : ∀ pc, 48 ≤ pc → cm_code 171 pc = none := by
  intro pc h
  show cd_Model_commutes pc = none
  unfold cd_Model_commutes
  rw [show Nat.blt pc 48 = false from by rw [Bool.eq_false_iff]; intro q; have := Nat.le_of_ble_eq_true q; omega]
  rfl
theorem cb_172 : ∀ pc, 76 ≤ pc → cm_code 172 pc = none := by
  intro pc h
  show cd_Model_group pc = none
  unfold cd_Model_group
  rw [show Nat.blt pc 76 = false from by rw [Bool.eq_false_iff]; intro q; have := Nat.le_of_ble_eq_true q; omega]
  rfl
theorem cb_173 : ∀ pc, 57 ≤ pc → cm_code 173 pc = none := by
  intro pc h
  show cd_Model_member pc = none
  unfold cd_Model_member
  rw [show Nat.blt pc 57 = false from by rw [Bool.eq_false_iff]; intro q; have := Nat.le_of_ble_eq_true q; omega]
  rfl
theorem cb_174 : ∀ pc, 32 ≤ pc → cm_code 174 pc = none := by
  intro pc h
  show cd_Model_times_ pc = none
  unfold cd_Model_times_
  rw [show Nat.blt pc 32 = false from by rw [Bool.eq_false_iff]; intro q; have := Nat.le_of_ble_eq_true q; omega]
  rfl
theorem cb_175 : ∀ pc, 114 ≤ pc → cm_code 175 pc = none := by
  intro pc h
  show cd_Model_about pc = none
  unfold cd_Model_about
  rw [show Nat.blt pc 114 = false from by rw [Bool.eq_false_iff]; intro q; have := Nat.le_of_ble_eq_true q; omega]
  rfl
theorem cb_176 : ∀ pc, 52 ≤ pc → cm_code 176 pc = none := by
  intro pc h
  show cd_Model_feed pc = none
  unfold cd_Model_feed
  rw [show Nat.blt pc 52 = false from by rw [Bool.eq_false_iff]; intro q; have := Nat.le_of_ble_eq_true q; omega]
  rfl
theorem cb_177 : ∀ pc, 37 ≤ pc → cm_code 177 pc = none := by
  intro pc h
  show cd_Model_puts pc = none
  unfold cd_Model_puts
  rw [show Nat.blt pc 37 = false from by rw [Bool.eq_false_iff]; intro q; have := Nat.le_of_ble_eq_true q; omega]
  rfl
theorem cb_178 : ∀ pc, 23 ≤ pc → cm_code 178 pc = none := by
  intro pc h
  show cd_Model_byteAt pc = none
  unfold cd_Model_byteAt
  rw [show Nat.blt pc 23 = false from by rw [Bool.eq_false_iff]; intro q; have := Nat.le_of_ble_eq_true q; omega]
  rfl
theorem cb_179 : ∀ pc, 184 ≤ pc → cm_code 179 pc = none := by
  intro pc h
  show cd_Model_go pc = none
  unfold cd_Model_go
  rw [show Nat.blt pc 184 = false from by rw [Bool.eq_false_iff]; intro q; have := Nat.le_of_ble_eq_true q; omega]
  rfl
theorem cb_180 : ∀ pc, 25 ≤ pc → cm_code 180 pc = none := by
  intro pc h
  show cd_Model_starts pc = none
  unfold cd_Model_starts
  rw [show Nat.blt pc 25 = false from by rw [Bool.eq_false_iff]; intro q; have := Nat.le_of_ble_eq_true q; omega]
  rfl
theorem cb_181 : ∀ pc, 29 ≤ pc → cm_code 181 pc = none := by
  intro pc h
  show cd_Model_bad pc = none
  unfold cd_Model_bad
  rw [show Nat.blt pc 29 = false from by rw [Bool.eq_false_iff]; intro q; have := Nat.le_of_ble_eq_true q; omega]
  rfl
theorem cb_182 : ∀ pc, 22 ≤ pc → cm_code 182 pc = none := by
  intro pc h
  show cd_Model_is pc = none
  unfold cd_Model_is
  rw [show Nat.blt pc 22 = false from by rw [Bool.eq_false_iff]; intro q; have := Nat.le_of_ble_eq_true q; omega]
  rfl
theorem cb_183 : ∀ pc, 20 ≤ pc → cm_code 183 pc = none := by
  intro pc h
  show cd_Model_sign pc = none
  unfold cd_Model_sign
  rw [show Nat.blt pc 20 = false from by rw [Bool.eq_false_iff]; intro q; have := Nat.le_of_ble_eq_true q; omega]
  rfl
theorem cb_184 : ∀ pc, 75 ≤ pc → cm_code 184 pc = none := by
  intro pc h
  show cd_Model_tableNumber pc = none
  unfold cd_Model_tableNumber
  rw [show Nat.blt pc 75 = false from by rw [Bool.eq_false_iff]; intro q; have := Nat.le_of_ble_eq_true q; omega]
  rfl
theorem cb_185 : ∀ pc, 23 ≤ pc → cm_code 185 pc = none := by
  intro pc h
  show cd_Model_isNumberNext pc = none
  unfold cd_Model_isNumberNext
  rw [show Nat.blt pc 23 = false from by rw [Bool.eq_false_iff]; intro q; have := Nat.le_of_ble_eq_true q; omega]
  rfl
theorem cb_186 : ∀ pc, 78 ≤ pc → cm_code 186 pc = none := by
  intro pc h
  show cd_Model_rowOf pc = none
  unfold cd_Model_rowOf
  rw [show Nat.blt pc 78 = false from by rw [Bool.eq_false_iff]; intro q; have := Nat.le_of_ble_eq_true q; omega]
  rfl
theorem cb_187 : ∀ pc, 90 ≤ pc → cm_code 187 pc = none := by
  intro pc h
  show cd_Model_table pc = none
  unfold cd_Model_table
  rw [show Nat.blt pc 90 = false from by rw [Bool.eq_false_iff]; intro q; have := Nat.le_of_ble_eq_true q; omega]
  rfl
theorem cb_188 : ∀ pc, 117 ≤ pc → cm_code 188 pc = none := by
  intro pc h
  show cd_Model_tables pc = none
  unfold cd_Model_tables
  rw [show Nat.blt pc 117 = false from by rw [Bool.eq_false_iff]; intro q; have := Nat.le_of_ble_eq_true q; omega]
  rfl
theorem cb_189 : ∀ pc, 243 ≤ pc → cm_code 189 pc = none := by
  intro pc h
  show cd_Model_takes pc = none
  unfold cd_Model_takes
  rw [show Nat.blt pc 243 = false from by rw [Bool.eq_false_iff]; intro q; have := Nat.le_of_ble_eq_true q; omega]
  rfl
theorem cb_190 : ∀ pc, 44 ≤ pc → cm_code 190 pc = none := by
  intro pc h
  show cd_Model_pushes pc = none
  unfold cd_Model_pushes
  rw [show Nat.blt pc 44 = false from by rw [Bool.eq_false_iff]; intro q; have := Nat.le_of_ble_eq_true q; omega]
  rfl
theorem cb_191 : ∀ pc, 214 ≤ pc → cm_code 191 pc = none := by
  intro pc h
  show cd_Model_part pc = none
  unfold cd_Model_part
  rw [show Nat.blt pc 214 = false from by rw [Bool.eq_false_iff]; intro q; have := Nat.le_of_ble_eq_true q; omega]
  rfl
theorem cb_192 : ∀ pc, 154 ≤ pc → cm_code 192 pc = none := by
  intro pc h
  show cd_Model_joins pc = none
  unfold cd_Model_joins
  rw [show Nat.blt pc 154 = false from by rw [Bool.eq_false_iff]; intro q; have := Nat.le_of_ble_eq_true q; omega]
  rfl
theorem cb_193 : ∀ pc, 125 ≤ pc → cm_code 193 pc = none := by
  intro pc h
  show cd_Model_raises pc = none
  unfold cd_Model_raises
  rw [show Nat.blt pc 125 = false from by rw [Bool.eq_false_iff]; intro q; have := Nat.le_of_ble_eq_true q; omega]
  rfl
theorem cb_194 : ∀ pc, 80 ≤ pc → cm_code 194 pc = none := by
  intro pc h
  show cd_Model_powerOf pc = none
  unfold cd_Model_powerOf
  rw [show Nat.blt pc 80 = false from by rw [Bool.eq_false_iff]; intro q; have := Nat.le_of_ble_eq_true q; omega]
  rfl
theorem cb_195 : ∀ pc, 40 ≤ pc → cm_code 195 pc = none := by
  intro pc h
  show cd_Model_productOf pc = none
  unfold cd_Model_productOf
  rw [show Nat.blt pc 40 = false from by rw [Bool.eq_false_iff]; intro q; have := Nat.le_of_ble_eq_true q; omega]
  rfl
theorem cb_196 : ∀ pc, 84 ≤ pc → cm_code 196 pc = none := by
  intro pc h
  show cd_Model_adds pc = none
  unfold cd_Model_adds
  rw [show Nat.blt pc 84 = false from by rw [Bool.eq_false_iff]; intro q; have := Nat.le_of_ble_eq_true q; omega]
  rfl
theorem cb_197 : ∀ pc, 102 ≤ pc → cm_code 197 pc = none := by
  intro pc h
  show cd_Model_sum pc = none
  unfold cd_Model_sum
  rw [show Nat.blt pc 102 = false from by rw [Bool.eq_false_iff]; intro q; have := Nat.le_of_ble_eq_true q; omega]
  rfl
theorem cb_198 : ∀ pc, 7 ≤ pc → cm_code 198 pc = none := by
  intro pc h
  show cd_Model_isKept pc = none
  unfold cd_Model_isKept
  rw [show Nat.blt pc 7 = false from by rw [Bool.eq_false_iff]; intro q; have := Nat.le_of_ble_eq_true q; omega]
  rfl
theorem cb_199 : ∀ pc, 122 ≤ pc → cm_code 199 pc = none := by
  intro pc h
  show cd_Model_polynomial pc = none
  unfold cd_Model_polynomial
  rw [show Nat.blt pc 122 = false from by rw [Bool.eq_false_iff]; intro q; have := Nat.le_of_ble_eq_true q; omega]
  rfl
theorem cb_200 : ∀ pc, 371 ≤ pc → cm_code 200 pc = none := by
  intro pc h
  show cd_Model_laysImages pc = none
  unfold cd_Model_laysImages
  rw [show Nat.blt pc 371 = false from by rw [Bool.eq_false_iff]; intro q; have := Nat.le_of_ble_eq_true q; omega]
  rfl
theorem cb_201 : ∀ pc, 133 ≤ pc → cm_code 201 pc = none := by
  intro pc h
  show cd_Model_moves pc = none
  unfold cd_Model_moves
  rw [show Nat.blt pc 133 = false from by rw [Bool.eq_false_iff]; intro q; have := Nat.le_of_ble_eq_true q; omega]
  rfl
theorem cb_202 : ∀ pc, 69 ≤ pc → cm_code 202 pc = none := by
  intro pc h
  show cd_Model_isAlone pc = none
  unfold cd_Model_isAlone
  rw [show Nat.blt pc 69 = false from by rw [Bool.eq_false_iff]; intro q; have := Nat.le_of_ble_eq_true q; omega]
  rfl
theorem cb_203 : ∀ pc, 53 ≤ pc → cm_code 203 pc = none := by
  intro pc h
  show cd_Model_isOfOne pc = none
  unfold cd_Model_isOfOne
  rw [show Nat.blt pc 53 = false from by rw [Bool.eq_false_iff]; intro q; have := Nat.le_of_ble_eq_true q; omega]
  rfl
theorem cb_204 : ∀ pc, 159 ≤ pc → cm_code 204 pc = none := by
  intro pc h
  show cd_Model_unlike pc = none
  unfold cd_Model_unlike
  rw [show Nat.blt pc 159 = false from by rw [Bool.eq_false_iff]; intro q; have := Nat.le_of_ble_eq_true q; omega]
  rfl
theorem cb_205 : ∀ pc, 116 ≤ pc → cm_code 205 pc = none := by
  intro pc h
  show cd_Model_of_ pc = none
  unfold cd_Model_of_
  rw [show Nat.blt pc 116 = false from by rw [Bool.eq_false_iff]; intro q; have := Nat.le_of_ble_eq_true q; omega]
  rfl
theorem cb_206 : ∀ pc, 93 ≤ pc → cm_code 206 pc = none := by
  intro pc h
  show cd_Model_factor pc = none
  unfold cd_Model_factor
  rw [show Nat.blt pc 93 = false from by rw [Bool.eq_false_iff]; intro q; have := Nat.le_of_ble_eq_true q; omega]
  rfl
theorem cb_207 : ∀ pc, 162 ≤ pc → cm_code 207 pc = none := by
  intro pc h
  show cd_Model_term pc = none
  unfold cd_Model_term
  rw [show Nat.blt pc 162 = false from by rw [Bool.eq_false_iff]; intro q; have := Nat.le_of_ble_eq_true q; omega]
  rfl
theorem cb_208 : ∀ pc, 80 ≤ pc → cm_code 208 pc = none := by
  intro pc h
  show cd_Model_moved pc = none
  unfold cd_Model_moved
  rw [show Nat.blt pc 80 = false from by rw [Bool.eq_false_iff]; intro q; have := Nat.le_of_ble_eq_true q; omega]
  rfl
theorem cb_209 : ∀ pc, 152 ≤ pc → cm_code 209 pc = none := by
  intro pc h
  show cd_Model_average pc = none
  unfold cd_Model_average
  rw [show Nat.blt pc 152 = false from by rw [Bool.eq_false_iff]; intro q; have := Nat.le_of_ble_eq_true q; omega]
  rfl
theorem cb_210 : ∀ pc, 126 ≤ pc → cm_code 210 pc = none := by
  intro pc h
  show cd_Model_plus pc = none
  unfold cd_Model_plus
  rw [show Nat.blt pc 126 = false from by rw [Bool.eq_false_iff]; intro q; have := Nat.le_of_ble_eq_true q; omega]
  rfl
theorem cb_211 : ∀ pc, 164 ≤ pc → cm_code 211 pc = none := by
  intro pc h
  show cd_Model_product_ pc = none
  unfold cd_Model_product_
  rw [show Nat.blt pc 164 = false from by rw [Bool.eq_false_iff]; intro q; have := Nat.le_of_ble_eq_true q; omega]
  rfl
theorem cb_212 : ∀ pc, 326 ≤ pc → cm_code 212 pc = none := by
  intro pc h
  show cd_Model_steps pc = none
  unfold cd_Model_steps
  rw [show Nat.blt pc 326 = false from by rw [Bool.eq_false_iff]; intro q; have := Nat.le_of_ble_eq_true q; omega]
  rfl
theorem cb_213 : ∀ pc, 29 ≤ pc → cm_code 213 pc = none := by
  intro pc h
  show cd_Model_clearsRow pc = none
  unfold cd_Model_clearsRow
  rw [show Nat.blt pc 29 = false from by rw [Bool.eq_false_iff]; intro q; have := Nat.le_of_ble_eq_true q; omega]
  rfl
theorem cb_214 : ∀ pc, 16 ≤ pc → cm_code 214 pc = none := by
  intro pc h
  show cd_Model_forgets pc = none
  unfold cd_Model_forgets
  rw [show Nat.blt pc 16 = false from by rw [Bool.eq_false_iff]; intro q; have := Nat.le_of_ble_eq_true q; omega]
  rfl
theorem cb_215 : ∀ pc, 93 ≤ pc → cm_code 215 pc = none := by
  intro pc h
  show cd_Model_laysBases pc = none
  unfold cd_Model_laysBases
  rw [show Nat.blt pc 93 = false from by rw [Bool.eq_false_iff]; intro q; have := Nat.le_of_ble_eq_true q; omega]
  rfl
theorem cb_216 : ∀ pc, 142 ≤ pc → cm_code 216 pc = none := by
  intro pc h
  show cd_Model_laysBase pc = none
  unfold cd_Model_laysBase
  rw [show Nat.blt pc 142 = false from by rw [Bool.eq_false_iff]; intro q; have := Nat.le_of_ble_eq_true q; omega]
  rfl
theorem cb_217 : ∀ pc, 311 ≤ pc → cm_code 217 pc = none := by
  intro pc h
  show cd_Model_laysFree pc = none
  unfold cd_Model_laysFree
  rw [show Nat.blt pc 311 = false from by rw [Bool.eq_false_iff]; intro q; have := Nat.le_of_ble_eq_true q; omega]
  rfl
theorem cb_218 : ∀ pc, 61 ≤ pc → cm_code 218 pc = none := by
  intro pc h
  show cd_Model_laysBaseRow pc = none
  unfold cd_Model_laysBaseRow
  rw [show Nat.blt pc 61 = false from by rw [Bool.eq_false_iff]; intro q; have := Nat.le_of_ble_eq_true q; omega]
  rfl
theorem cb_219 : ∀ pc, 29 ≤ pc → cm_code 219 pc = none := by
  intro pc h
  show cd_Model_series pc = none
  unfold cd_Model_series
  rw [show Nat.blt pc 29 = false from by rw [Bool.eq_false_iff]; intro q; have := Nat.le_of_ble_eq_true q; omega]
  rfl
theorem cb_220 : ∀ pc, 73 ≤ pc → cm_code 220 pc = none := by
  intro pc h
  show cd_Model_base pc = none
  unfold cd_Model_base
  rw [show Nat.blt pc 73 = false from by rw [Bool.eq_false_iff]; intro q; have := Nat.le_of_ble_eq_true q; omega]
  rfl
theorem cb_221 : ∀ pc, 270 ≤ pc → cm_code 221 pc = none := by
  intro pc h
  show cd_Model_areAll pc = none
  unfold cd_Model_areAll
  rw [show Nat.blt pc 270 = false from by rw [Bool.eq_false_iff]; intro q; have := Nat.le_of_ble_eq_true q; omega]
  rfl
theorem cb_222 : ∀ pc, 235 ≤ pc → cm_code 222 pc = none := by
  intro pc h
  show cd_Model_isSystem pc = none
  unfold cd_Model_isSystem
  rw [show Nat.blt pc 235 = false from by rw [Bool.eq_false_iff]; intro q; have := Nat.le_of_ble_eq_true q; omega]
  rfl
theorem cb_223 : ∀ pc, 166 ≤ pc → cm_code 223 pc = none := by
  intro pc h
  show cd_Model_laysPrimary pc = none
  unfold cd_Model_laysPrimary
  rw [show Nat.blt pc 166 = false from by rw [Bool.eq_false_iff]; intro q; have := Nat.le_of_ble_eq_true q; omega]
  rfl
theorem cb_224 : ∀ pc, 169 ≤ pc → cm_code 224 pc = none := by
  intro pc h
  show cd_Model_asksProduct pc = none
  unfold cd_Model_asksProduct
  rw [show Nat.blt pc 169 = false from by rw [Bool.eq_false_iff]; intro q; have := Nat.le_of_ble_eq_true q; omega]
  rfl
theorem cb_225 : ∀ pc, 153 ≤ pc → cm_code 225 pc = none := by
  intro pc h
  show cd_Model_asksThese pc = none
  unfold cd_Model_asksThese
  rw [show Nat.blt pc 153 = false from by rw [Bool.eq_false_iff]; intro q; have := Nat.le_of_ble_eq_true q; omega]
  rfl
theorem cb_226 : ∀ pc, 65 ≤ pc → cm_code 226 pc = none := by
  intro pc h
  show cd_Model_primary pc = none
  unfold cd_Model_primary
  rw [show Nat.blt pc 65 = false from by rw [Bool.eq_false_iff]; intro q; have := Nat.le_of_ble_eq_true q; omega]
  rfl
theorem cb_227 : ∀ pc, 184 ≤ pc → cm_code 227 pc = none := by
  intro pc h
  show cd_Model_laysProducts pc = none
  unfold cd_Model_laysProducts
  rw [show Nat.blt pc 184 = false from by rw [Bool.eq_false_iff]; intro q; have := Nat.le_of_ble_eq_true q; omega]
  rfl
theorem cb_228 : ∀ pc, 50 ≤ pc → cm_code 228 pc = none := by
  intro pc h
  show cd_Model_timesPrimary pc = none
  unfold cd_Model_timesPrimary
  rw [show Nat.blt pc 50 = false from by rw [Bool.eq_false_iff]; intro q; have := Nat.le_of_ble_eq_true q; omega]
  rfl
theorem cb_229 : ∀ pc, 150 ≤ pc → cm_code 229 pc = none := by
  intro pc h
  show cd_Model_laysProduct pc = none
  unfold cd_Model_laysProduct
  rw [show Nat.blt pc 150 = false from by rw [Bool.eq_false_iff]; intro q; have := Nat.le_of_ble_eq_true q; omega]
  rfl
theorem cb_230 : ∀ pc, 169 ≤ pc → cm_code 230 pc = none := by
  intro pc h
  show cd_Model_laysSecondary pc = none
  unfold cd_Model_laysSecondary
  rw [show Nat.blt pc 169 = false from by rw [Bool.eq_false_iff]; intro q; have := Nat.le_of_ble_eq_true q; omega]
  rfl
theorem cb_231 : ∀ pc, 25 ≤ pc → cm_code 231 pc = none := by
  intro pc h
  show cd_Model_secondaries pc = none
  unfold cd_Model_secondaries
  rw [show Nat.blt pc 25 = false from by rw [Bool.eq_false_iff]; intro q; have := Nat.le_of_ble_eq_true q; omega]
  rfl
theorem cb_232 : ∀ pc, 61 ≤ pc → cm_code 232 pc = none := by
  intro pc h
  show cd_Model_secondary pc = none
  unfold cd_Model_secondary
  rw [show Nat.blt pc 61 = false from by rw [Bool.eq_false_iff]; intro q; have := Nat.le_of_ble_eq_true q; omega]
  rfl
theorem cb_233 : ∀ pc, 66 ≤ pc → cm_code 233 pc = none := by
  intro pc h
  show cd_Model_numerator pc = none
  unfold cd_Model_numerator
  rw [show Nat.blt pc 66 = false from by rw [Bool.eq_false_iff]; intro q; have := Nat.le_of_ble_eq_true q; omega]
  rfl
theorem cb_234 : ∀ pc, 92 ≤ pc → cm_code 234 pc = none := by
  intro pc h
  show cd_Model_solves pc = none
  unfold cd_Model_solves
  rw [show Nat.blt pc 92 = false from by rw [Bool.eq_false_iff]; intro q; have := Nat.le_of_ble_eq_true q; omega]
  rfl
theorem cb_235 : ∀ pc, 320 ≤ pc → cm_code 235 pc = none := by
  intro pc h
  show cd_Model_solvesDegree pc = none
  unfold cd_Model_solvesDegree
  rw [show Nat.blt pc 320 = false from by rw [Bool.eq_false_iff]; intro q; have := Nat.le_of_ble_eq_true q; omega]
  rfl
theorem cb_236 : ∀ pc, 74 ≤ pc → cm_code 236 pc = none := by
  intro pc h
  show cd_Model_told pc = none
  unfold cd_Model_told
  rw [show Nat.blt pc 74 = false from by rw [Bool.eq_false_iff]; intro q; have := Nat.le_of_ble_eq_true q; omega]
  rfl
theorem cb_237 : ∀ pc, 103 ≤ pc → cm_code 237 pc = none := by
  intro pc h
  show cd_Model_rewrite pc = none
  unfold cd_Model_rewrite
  rw [show Nat.blt pc 103 = false from by rw [Bool.eq_false_iff]; intro q; have := Nat.le_of_ble_eq_true q; omega]
  rfl
theorem cb_238 : ∀ pc, 46 ≤ pc → cm_code 238 pc = none := by
  intro pc h
  show cd_Model_arePowers pc = none
  unfold cd_Model_arePowers
  rw [show Nat.blt pc 46 = false from by rw [Bool.eq_false_iff]; intro q; have := Nat.le_of_ble_eq_true q; omega]
  rfl
theorem cb_239 : ∀ pc, 46 ≤ pc → cm_code 239 pc = none := by
  intro pc h
  show cd_Model_rewritten pc = none
  unfold cd_Model_rewritten
  rw [show Nat.blt pc 46 = false from by rw [Bool.eq_false_iff]; intro q; have := Nat.le_of_ble_eq_true q; omega]
  rfl
theorem cb_240 : ∀ pc, 183 ≤ pc → cm_code 240 pc = none := by
  intro pc h
  show cd_Model_relation pc = none
  unfold cd_Model_relation
  rw [show Nat.blt pc 183 = false from by rw [Bool.eq_false_iff]; intro q; have := Nat.le_of_ble_eq_true q; omega]
  rfl
theorem cb_241 : ∀ pc, 30 ≤ pc → cm_code 241 pc = none := by
  intro pc h
  show cd_Model_count pc = none
  unfold cd_Model_count
  rw [show Nat.blt pc 30 = false from by rw [Bool.eq_false_iff]; intro q; have := Nat.le_of_ble_eq_true q; omega]
  rfl
theorem cb_242 : ∀ pc, 74 ≤ pc → cm_code 242 pc = none := by
  intro pc h
  show cd_Arr_range pc = none
  unfold cd_Arr_range
  rw [show Nat.blt pc 74 = false from by rw [Bool.eq_false_iff]; intro q; have := Nat.le_of_ble_eq_true q; omega]
  rfl
theorem cb_243 : ∀ pc, 21 ≤ pc → cm_code 243 pc = none := by
  intro pc h
  show cd_Arr_fill pc = none
  unfold cd_Arr_fill
  rw [show Nat.blt pc 21 = false from by rw [Bool.eq_false_iff]; intro q; have := Nat.le_of_ble_eq_true q; omega]
  rfl
theorem cb_244 : ∀ pc, 28 ≤ pc → cm_code 244 pc = none := by
  intro pc h
  show cd_Arr_fill4 pc = none
  unfold cd_Arr_fill4
  rw [show Nat.blt pc 28 = false from by rw [Bool.eq_false_iff]; intro q; have := Nat.le_of_ble_eq_true q; omega]
  rfl
set_option maxRecDepth 100000 in
theorem okM_0 : ok_M 0 89 = true := by decide +kernel
set_option maxRecDepth 100000 in
theorem okM_1 : ok_M 1 39 = true := by decide +kernel
set_option maxRecDepth 100000 in
theorem okM_2 : ok_M 2 228 = true := by decide +kernel
set_option maxRecDepth 100000 in
theorem okM_3 : ok_M 3 21 = true := by decide +kernel
set_option maxRecDepth 100000 in
theorem okM_4 : ok_M 4 196 = true := by decide +kernel
set_option maxRecDepth 100000 in
theorem okM_5 : ok_M 5 21 = true := by decide +kernel
set_option maxRecDepth 100000 in
theorem okM_6 : ok_M 6 46 = true := by decide +kernel
set_option maxRecDepth 100000 in
theorem okM_7 : ok_M 7 174 = true := by decide +kernel
set_option maxRecDepth 100000 in
theorem okM_8 : ok_M 8 60 = true := by decide +kernel
set_option maxRecDepth 100000 in
theorem okM_9 : ok_M 9 43 = true := by decide +kernel
set_option maxRecDepth 100000 in
theorem okM_10 : ok_M 10 79 = true := by decide +kernel
set_option maxRecDepth 100000 in
theorem okM_11 : ok_M 11 52 = true := by decide +kernel
set_option maxRecDepth 100000 in
theorem okM_12 : ok_M 12 59 = true := by decide +kernel
set_option maxRecDepth 100000 in
theorem okM_13 : ok_M 13 82 = true := by decide +kernel
set_option maxRecDepth 100000 in
theorem okM_14 : ok_M 14 129 = true := by decide +kernel
set_option maxRecDepth 100000 in
theorem okM_15 : ok_M 15 39 = true := by decide +kernel
set_option maxRecDepth 100000 in
theorem okM_16 : ok_M 16 212 = true := by decide +kernel
set_option maxRecDepth 100000 in
theorem okM_17 : ok_M 17 68 = true := by decide +kernel
set_option maxRecDepth 100000 in
theorem okM_18 : ok_M 18 105 = true := by decide +kernel
set_option maxRecDepth 100000 in
theorem okM_19 : ok_M 19 118 = true := by decide +kernel
set_option maxRecDepth 100000 in
theorem okM_20 : ok_M 20 45 = true := by decide +kernel
set_option maxRecDepth 100000 in
theorem okM_21 : ok_M 21 80 = true := by decide +kernel
set_option maxRecDepth 100000 in
theorem okM_22 : ok_M 22 85 = true := by decide +kernel
set_option maxRecDepth 100000 in
theorem okM_23 : ok_M 23 186 = true := by decide +kernel
set_option maxRecDepth 100000 in
theorem okM_24 : ok_M 24 125 = true := by decide +kernel
set_option maxRecDepth 100000 in
theorem okM_25 : ok_M 25 77 = true := by decide +kernel
set_option maxRecDepth 100000 in
theorem okM_26 : ok_M 26 80 = true := by decide +kernel
set_option maxRecDepth 100000 in
theorem okM_27 : ok_M 27 72 = true := by decide +kernel
set_option maxRecDepth 100000 in
theorem okM_28 : ok_M 28 31 = true := by decide +kernel
set_option maxRecDepth 100000 in
theorem okM_29 : ok_M 29 52 = true := by decide +kernel
set_option maxRecDepth 100000 in
theorem okM_30 : ok_M 30 60 = true := by decide +kernel
set_option maxRecDepth 100000 in
theorem okM_31 : ok_M 31 58 = true := by decide +kernel
set_option maxRecDepth 100000 in
theorem okM_32 : ok_M 32 45 = true := by decide +kernel
set_option maxRecDepth 100000 in
theorem okM_33 : ok_M 33 139 = true := by decide +kernel
set_option maxRecDepth 100000 in
theorem okM_34 : ok_M 34 72 = true := by decide +kernel
set_option maxRecDepth 100000 in
theorem okM_35 : ok_M 35 11 = true := by decide +kernel
set_option maxRecDepth 100000 in
theorem okM_36 : ok_M 36 166 = true := by decide +kernel
set_option maxRecDepth 100000 in
theorem okM_37 : ok_M 37 63 = true := by decide +kernel
set_option maxRecDepth 100000 in
theorem okM_38 : ok_M 38 191 = true := by decide +kernel
set_option maxRecDepth 100000 in
theorem okM_39 : ok_M 39 222 = true := by decide +kernel
set_option maxRecDepth 100000 in
theorem okM_40 : ok_M 40 179 = true := by decide +kernel
set_option maxRecDepth 100000 in
theorem okM_41 : ok_M 41 177 = true := by decide +kernel
set_option maxRecDepth 100000 in
theorem okM_42 : ok_M 42 197 = true := by decide +kernel
set_option maxRecDepth 100000 in
theorem okM_43 : ok_M 43 12 = true := by decide +kernel
set_option maxRecDepth 100000 in
theorem okM_44 : ok_M 44 16 = true := by decide +kernel
set_option maxRecDepth 100000 in
theorem okM_45 : ok_M 45 88 = true := by decide +kernel
set_option maxRecDepth 100000 in
theorem okM_46 : ok_M 46 24 = true := by decide +kernel
set_option maxRecDepth 100000 in
theorem okM_47 : ok_M 47 130 = true := by decide +kernel
set_option maxRecDepth 100000 in
theorem okM_48 : ok_M 48 59 = true := by decide +kernel
set_option maxRecDepth 100000 in
theorem okM_49 : ok_M 49 67 = true := by decide +kernel
set_option maxRecDepth 100000 in
theorem okM_50 : ok_M 50 130 = true := by decide +kernel
set_option maxRecDepth 100000 in
theorem okM_51 : ok_M 51 68 = true := by decide +kernel
set_option maxRecDepth 100000 in
theorem okM_52 : ok_M 52 252 = true := by decide +kernel
set_option maxRecDepth 100000 in
theorem okM_53 : ok_M 53 125 = true := by decide +kernel
set_option maxRecDepth 100000 in
theorem okM_54 : ok_M 54 105 = true := by decide +kernel
set_option maxRecDepth 100000 in
theorem okM_55 : ok_M 55 17 = true := by decide +kernel
set_option maxRecDepth 100000 in
theorem okM_56 : ok_M 56 20 = true := by decide +kernel
set_option maxRecDepth 100000 in
theorem okM_57 : ok_M 57 144 = true := by decide +kernel
set_option maxRecDepth 100000 in
theorem okM_58 : ok_M 58 22 = true := by decide +kernel
set_option maxRecDepth 100000 in
theorem okM_59 : ok_M 59 97 = true := by decide +kernel
set_option maxRecDepth 100000 in
theorem okM_60 : ok_M 60 18 = true := by decide +kernel
set_option maxRecDepth 100000 in
theorem okM_61 : ok_M 61 104 = true := by decide +kernel
set_option maxRecDepth 100000 in
theorem okM_62 : ok_M 62 93 = true := by decide +kernel
set_option maxRecDepth 100000 in
theorem okM_63 : ok_M 63 61 = true := by decide +kernel
set_option maxRecDepth 100000 in
theorem okM_64 : ok_M 64 173 = true := by decide +kernel
set_option maxRecDepth 100000 in
theorem okM_65 : ok_M 65 53 = true := by decide +kernel
set_option maxRecDepth 100000 in
theorem okM_66 : ok_M 66 91 = true := by decide +kernel
set_option maxRecDepth 100000 in
theorem okM_67 : ok_M 67 31 = true := by decide +kernel
set_option maxRecDepth 100000 in
theorem okM_68 : ok_M 68 97 = true := by decide +kernel
set_option maxRecDepth 100000 in
theorem okM_69 : ok_M 69 37 = true := by decide +kernel
set_option maxRecDepth 100000 in
theorem okM_70 : ok_M 70 59 = true := by decide +kernel
set_option maxRecDepth 100000 in
theorem okM_71 : ok_M 71 299 = true := by decide +kernel
set_option maxRecDepth 100000 in
theorem okM_72 : ok_M 72 57 = true := by decide +kernel
set_option maxRecDepth 100000 in
theorem okM_73 : ok_M 73 146 = true := by decide +kernel
set_option maxRecDepth 100000 in
theorem okM_74 : ok_M 74 113 = true := by decide +kernel
set_option maxRecDepth 100000 in
theorem okM_75 : ok_M 75 192 = true := by decide +kernel
set_option maxRecDepth 100000 in
theorem okM_76 : ok_M 76 129 = true := by decide +kernel
set_option maxRecDepth 100000 in
theorem okM_77 : ok_M 77 230 = true := by decide +kernel
set_option maxRecDepth 100000 in
theorem okM_78 : ok_M 78 44 = true := by decide +kernel
set_option maxRecDepth 100000 in
theorem okM_79 : ok_M 79 35 = true := by decide +kernel
set_option maxRecDepth 100000 in
theorem okM_80 : ok_M 80 48 = true := by decide +kernel
set_option maxRecDepth 100000 in
theorem okM_81 : ok_M 81 29 = true := by decide +kernel
set_option maxRecDepth 100000 in
theorem okM_82 : ok_M 82 39 = true := by decide +kernel
set_option maxRecDepth 100000 in
theorem okM_83 : ok_M 83 177 = true := by decide +kernel
set_option maxRecDepth 100000 in
theorem okM_84 : ok_M 84 152 = true := by decide +kernel
set_option maxRecDepth 100000 in
theorem okM_85 : ok_M 85 20 = true := by decide +kernel
set_option maxRecDepth 100000 in
theorem okM_86 : ok_M 86 137 = true := by decide +kernel
set_option maxRecDepth 100000 in
theorem okM_87 : ok_M 87 147 = true := by decide +kernel
set_option maxRecDepth 100000 in
theorem okM_88 : ok_M 88 92 = true := by decide +kernel
set_option maxRecDepth 100000 in
theorem okM_89 : ok_M 89 103 = true := by decide +kernel
set_option maxRecDepth 100000 in
theorem okM_90 : ok_M 90 157 = true := by decide +kernel
set_option maxRecDepth 100000 in
theorem okM_91 : ok_M 91 93 = true := by decide +kernel
set_option maxRecDepth 100000 in
theorem okM_92 : ok_M 92 26 = true := by decide +kernel
set_option maxRecDepth 100000 in
theorem okM_93 : ok_M 93 41 = true := by decide +kernel
set_option maxRecDepth 100000 in
theorem okM_94 : ok_M 94 106 = true := by decide +kernel
set_option maxRecDepth 100000 in
theorem okM_95 : ok_M 95 145 = true := by decide +kernel
set_option maxRecDepth 100000 in
theorem okM_96 : ok_M 96 211 = true := by decide +kernel
set_option maxRecDepth 100000 in
theorem okM_97 : ok_M 97 47 = true := by decide +kernel
set_option maxRecDepth 100000 in
theorem okM_98 : ok_M 98 159 = true := by decide +kernel
set_option maxRecDepth 100000 in
theorem okM_99 : ok_M 99 100 = true := by decide +kernel
set_option maxRecDepth 100000 in
theorem okM_100 : ok_M 100 98 = true := by decide +kernel
set_option maxRecDepth 100000 in
theorem okM_101 : ok_M 101 59 = true := by decide +kernel
set_option maxRecDepth 100000 in
theorem okM_102 : ok_M 102 33 = true := by decide +kernel
set_option maxRecDepth 100000 in
theorem okM_103 : ok_M 103 93 = true := by decide +kernel
set_option maxRecDepth 100000 in
theorem okM_104 : ok_M 104 126 = true := by decide +kernel
set_option maxRecDepth 100000 in
theorem okM_105 : ok_M 105 100 = true := by decide +kernel
set_option maxRecDepth 100000 in
theorem okM_106 : ok_M 106 152 = true := by decide +kernel
set_option maxRecDepth 100000 in
theorem okM_107 : ok_M 107 63 = true := by decide +kernel
set_option maxRecDepth 100000 in
theorem okM_108 : ok_M 108 133 = true := by decide +kernel
set_option maxRecDepth 100000 in
theorem okM_109 : ok_M 109 94 = true := by decide +kernel
set_option maxRecDepth 100000 in
theorem okM_110 : ok_M 110 87 = true := by decide +kernel
set_option maxRecDepth 100000 in
theorem okM_111 : ok_M 111 21 = true := by decide +kernel
set_option maxRecDepth 100000 in
theorem okM_112 : ok_M 112 90 = true := by decide +kernel
set_option maxRecDepth 100000 in
theorem okM_113 : ok_M 113 177 = true := by decide +kernel
set_option maxRecDepth 100000 in
theorem okM_114 : ok_M 114 62 = true := by decide +kernel
set_option maxRecDepth 100000 in
theorem okM_115 : ok_M 115 19 = true := by decide +kernel
set_option maxRecDepth 100000 in
theorem okM_116 : ok_M 116 59 = true := by decide +kernel
set_option maxRecDepth 100000 in
theorem okM_117 : ok_M 117 55 = true := by decide +kernel
set_option maxRecDepth 100000 in
theorem okM_118 : ok_M 118 73 = true := by decide +kernel
set_option maxRecDepth 100000 in
theorem okM_119 : ok_M 119 58 = true := by decide +kernel
set_option maxRecDepth 100000 in
theorem okM_120 : ok_M 120 152 = true := by decide +kernel
set_option maxRecDepth 100000 in
theorem okM_121 : ok_M 121 36 = true := by decide +kernel
set_option maxRecDepth 100000 in
theorem okM_122 : ok_M 122 57 = true := by decide +kernel
set_option maxRecDepth 100000 in
theorem okM_123 : ok_M 123 37 = true := by decide +kernel
set_option maxRecDepth 100000 in
theorem okM_124 : ok_M 124 16 = true := by decide +kernel
set_option maxRecDepth 100000 in
theorem okM_125 : ok_M 125 16 = true := by decide +kernel
set_option maxRecDepth 100000 in
theorem okM_126 : ok_M 126 21 = true := by decide +kernel
set_option maxRecDepth 100000 in
theorem okM_127 : ok_M 127 21 = true := by decide +kernel
set_option maxRecDepth 100000 in
theorem okM_128 : ok_M 128 45 = true := by decide +kernel
set_option maxRecDepth 100000 in
theorem okM_129 : ok_M 129 34 = true := by decide +kernel
set_option maxRecDepth 100000 in
theorem okM_130 : ok_M 130 63 = true := by decide +kernel
set_option maxRecDepth 100000 in
theorem okM_131 : ok_M 131 40 = true := by decide +kernel
set_option maxRecDepth 100000 in
theorem okM_132 : ok_M 132 57 = true := by decide +kernel
set_option maxRecDepth 100000 in
theorem okM_133 : ok_M 133 43 = true := by decide +kernel
set_option maxRecDepth 100000 in
theorem okM_134 : ok_M 134 43 = true := by decide +kernel
set_option maxRecDepth 100000 in
theorem okM_135 : ok_M 135 21 = true := by decide +kernel
set_option maxRecDepth 100000 in
theorem okM_136 : ok_M 136 47 = true := by decide +kernel
set_option maxRecDepth 100000 in
theorem okM_137 : ok_M 137 16 = true := by decide +kernel
set_option maxRecDepth 100000 in
theorem okM_138 : ok_M 138 14 = true := by decide +kernel
set_option maxRecDepth 100000 in
theorem okM_139 : ok_M 139 137 = true := by decide +kernel
set_option maxRecDepth 100000 in
theorem okM_140 : ok_M 140 23 = true := by decide +kernel
set_option maxRecDepth 100000 in
theorem okM_141 : ok_M 141 5 = true := by decide +kernel
set_option maxRecDepth 100000 in
theorem okM_142 : ok_M 142 16 = true := by decide +kernel
set_option maxRecDepth 100000 in
theorem okM_143 : ok_M 143 23 = true := by decide +kernel
set_option maxRecDepth 100000 in
theorem okM_144 : ok_M 144 55 = true := by decide +kernel
set_option maxRecDepth 100000 in
theorem okM_145 : ok_M 145 24 = true := by decide +kernel
set_option maxRecDepth 100000 in
theorem okM_146 : ok_M 146 31 = true := by decide +kernel
set_option maxRecDepth 100000 in
theorem okM_147 : ok_M 147 44 = true := by decide +kernel
set_option maxRecDepth 100000 in
theorem okM_148 : ok_M 148 97 = true := by decide +kernel
set_option maxRecDepth 100000 in
theorem okM_149 : ok_M 149 21 = true := by decide +kernel
set_option maxRecDepth 100000 in
theorem okM_150 : ok_M 150 7 = true := by decide +kernel
set_option maxRecDepth 100000 in
theorem okM_151 : ok_M 151 30 = true := by decide +kernel
set_option maxRecDepth 100000 in
theorem okM_152 : ok_M 152 22 = true := by decide +kernel
set_option maxRecDepth 100000 in
theorem okM_153 : ok_M 153 35 = true := by decide +kernel
set_option maxRecDepth 100000 in
theorem okM_154 : ok_M 154 40 = true := by decide +kernel
set_option maxRecDepth 100000 in
theorem okM_155 : ok_M 155 171 = true := by decide +kernel
set_option maxRecDepth 100000 in
theorem okM_156 : ok_M 156 38 = true := by decide +kernel
set_option maxRecDepth 100000 in
theorem okM_157 : ok_M 157 353 = true := by decide +kernel
set_option maxRecDepth 100000 in
theorem okM_158 : ok_M 158 14 = true := by decide +kernel
set_option maxRecDepth 100000 in
theorem okM_159 : ok_M 159 108 = true := by decide +kernel
set_option maxRecDepth 100000 in
theorem okM_160 : ok_M 160 78 = true := by decide +kernel
set_option maxRecDepth 100000 in
theorem okM_161 : ok_M 161 30 = true := by decide +kernel
set_option maxRecDepth 100000 in
theorem okM_162 : ok_M 162 139 = true := by decide +kernel
set_option maxRecDepth 100000 in
theorem okM_163 : ok_M 163 154 = true := by decide +kernel
set_option maxRecDepth 100000 in
theorem okM_164 : ok_M 164 27 = true := by decide +kernel
set_option maxRecDepth 100000 in
theorem okM_165 : ok_M 165 19 = true := by decide +kernel
set_option maxRecDepth 100000 in
theorem okM_166 : ok_M 166 23 = true := by decide +kernel
set_option maxRecDepth 100000 in
theorem okM_167 : ok_M 167 12 = true := by decide +kernel
set_option maxRecDepth 100000 in
theorem okM_168 : ok_M 168 23 = true := by decide +kernel
set_option maxRecDepth 100000 in
theorem okM_169 : ok_M 169 83 = true := by decide +kernel
set_option maxRecDepth 100000 in
theorem okM_170 : ok_M 170 38 = true := by decide +kernel
set_option maxRecDepth 100000 in
theorem okM_171 : ok_M 171 48 = true := by decide +kernel
set_option maxRecDepth 100000 in
theorem okM_172 : ok_M 172 76 = true := by decide +kernel
set_option maxRecDepth 100000 in
theorem okM_173 : ok_M 173 57 = true := by decide +kernel
set_option maxRecDepth 100000 in
theorem okM_174 : ok_M 174 32 = true := by decide +kernel
set_option maxRecDepth 100000 in
theorem okM_175 : ok_M 175 114 = true := by decide +kernel
set_option maxRecDepth 100000 in
theorem okM_176 : ok_M 176 52 = true := by decide +kernel
set_option maxRecDepth 100000 in
theorem okM_177 : ok_M 177 37 = true := by decide +kernel
set_option maxRecDepth 100000 in
theorem okM_178 : ok_M 178 23 = true := by decide +kernel
set_option maxRecDepth 100000 in
theorem okM_179 : ok_M 179 184 = true := by decide +kernel
set_option maxRecDepth 100000 in
theorem okM_180 : ok_M 180 25 = true := by decide +kernel
set_option maxRecDepth 100000 in
theorem okM_181 : ok_M 181 29 = true := by decide +kernel
set_option maxRecDepth 100000 in
theorem okM_182 : ok_M 182 22 = true := by decide +kernel
set_option maxRecDepth 100000 in
theorem okM_183 : ok_M 183 20 = true := by decide +kernel
set_option maxRecDepth 100000 in
theorem okM_184 : ok_M 184 75 = true := by decide +kernel
set_option maxRecDepth 100000 in
theorem okM_185 : ok_M 185 23 = true := by decide +kernel
set_option maxRecDepth 100000 in
theorem okM_186 : ok_M 186 78 = true := by decide +kernel
set_option maxRecDepth 100000 in
theorem okM_187 : ok_M 187 90 = true := by decide +kernel
set_option maxRecDepth 100000 in
theorem okM_188 : ok_M 188 117 = true := by decide +kernel
set_option maxRecDepth 100000 in
theorem okM_189 : ok_M 189 243 = true := by decide +kernel
set_option maxRecDepth 100000 in
theorem okM_190 : ok_M 190 44 = true := by decide +kernel
set_option maxRecDepth 100000 in
theorem okM_191 : ok_M 191 214 = true := by decide +kernel
set_option maxRecDepth 100000 in
theorem okM_192 : ok_M 192 154 = true := by decide +kernel
set_option maxRecDepth 100000 in
theorem okM_193 : ok_M 193 125 = true := by decide +kernel
set_option maxRecDepth 100000 in
theorem okM_194 : ok_M 194 80 = true := by decide +kernel
set_option maxRecDepth 100000 in
theorem okM_195 : ok_M 195 40 = true := by decide +kernel
set_option maxRecDepth 100000 in
theorem okM_196 : ok_M 196 84 = true := by decide +kernel
set_option maxRecDepth 100000 in
theorem okM_197 : ok_M 197 102 = true := by decide +kernel
set_option maxRecDepth 100000 in
theorem okM_198 : ok_M 198 7 = true := by decide +kernel
set_option maxRecDepth 100000 in
theorem okM_199 : ok_M 199 122 = true := by decide +kernel
set_option maxRecDepth 100000 in
theorem okM_200 : ok_M 200 371 = true := by decide +kernel
set_option maxRecDepth 100000 in
theorem okM_201 : ok_M 201 133 = true := by decide +kernel
set_option maxRecDepth 100000 in
theorem okM_202 : ok_M 202 69 = true := by decide +kernel
set_option maxRecDepth 100000 in
theorem okM_203 : ok_M 203 53 = true := by decide +kernel
set_option maxRecDepth 100000 in
theorem okM_204 : ok_M 204 159 = true := by decide +kernel
set_option maxRecDepth 100000 in
theorem okM_205 : ok_M 205 116 = true := by decide +kernel
set_option maxRecDepth 100000 in
theorem okM_206 : ok_M 206 93 = true := by decide +kernel
set_option maxRecDepth 100000 in
theorem okM_207 : ok_M 207 162 = true := by decide +kernel
set_option maxRecDepth 100000 in
theorem okM_208 : ok_M 208 80 = true := by decide +kernel
set_option maxRecDepth 100000 in
theorem okM_209 : ok_M 209 152 = true := by decide +kernel
set_option maxRecDepth 100000 in
theorem okM_210 : ok_M 210 126 = true := by decide +kernel
set_option maxRecDepth 100000 in
theorem okM_211 : ok_M 211 164 = true := by decide +kernel
set_option maxRecDepth 100000 in
theorem okM_212 : ok_M 212 326 = true := by decide +kernel
set_option maxRecDepth 100000 in
theorem okM_213 : ok_M 213 29 = true := by decide +kernel
set_option maxRecDepth 100000 in
theorem okM_214 : ok_M 214 16 = true := by decide +kernel
set_option maxRecDepth 100000 in
theorem okM_215 : ok_M 215 93 = true := by decide +kernel
set_option maxRecDepth 100000 in
theorem okM_216 : ok_M 216 142 = true := by decide +kernel
set_option maxRecDepth 100000 in
theorem okM_217 : ok_M 217 311 = true := by decide +kernel
set_option maxRecDepth 100000 in
theorem okM_218 : ok_M 218 61 = true := by decide +kernel
set_option maxRecDepth 100000 in
theorem okM_219 : ok_M 219 29 = true := by decide +kernel
set_option maxRecDepth 100000 in
theorem okM_220 : ok_M 220 73 = true := by decide +kernel
set_option maxRecDepth 100000 in
theorem okM_221 : ok_M 221 270 = true := by decide +kernel
set_option maxRecDepth 100000 in
theorem okM_222 : ok_M 222 235 = true := by decide +kernel
set_option maxRecDepth 100000 in
theorem okM_223 : ok_M 223 166 = true := by decide +kernel
set_option maxRecDepth 100000 in
theorem okM_224 : ok_M 224 169 = true := by decide +kernel
set_option maxRecDepth 100000 in
theorem okM_225 : ok_M 225 153 = true := by decide +kernel
set_option maxRecDepth 100000 in
theorem okM_226 : ok_M 226 65 = true := by decide +kernel
set_option maxRecDepth 100000 in
theorem okM_227 : ok_M 227 184 = true := by decide +kernel
set_option maxRecDepth 100000 in
theorem okM_228 : ok_M 228 50 = true := by decide +kernel
set_option maxRecDepth 100000 in
theorem okM_229 : ok_M 229 150 = true := by decide +kernel
set_option maxRecDepth 100000 in
theorem okM_230 : ok_M 230 169 = true := by decide +kernel
set_option maxRecDepth 100000 in
theorem okM_231 : ok_M 231 25 = true := by decide +kernel
set_option maxRecDepth 100000 in
theorem okM_232 : ok_M 232 61 = true := by decide +kernel
set_option maxRecDepth 100000 in
theorem okM_233 : ok_M 233 66 = true := by decide +kernel
set_option maxRecDepth 100000 in
theorem okM_234 : ok_M 234 92 = true := by decide +kernel
set_option maxRecDepth 100000 in
theorem okM_235 : ok_M 235 320 = true := by decide +kernel
set_option maxRecDepth 100000 in
theorem okM_236 : ok_M 236 74 = true := by decide +kernel
set_option maxRecDepth 100000 in
theorem okM_237 : ok_M 237 103 = true := by decide +kernel
set_option maxRecDepth 100000 in
theorem okM_238 : ok_M 238 46 = true := by decide +kernel
set_option maxRecDepth 100000 in
theorem okM_239 : ok_M 239 46 = true := by decide +kernel
set_option maxRecDepth 100000 in
theorem okM_240 : ok_M 240 183 = true := by decide +kernel
set_option maxRecDepth 100000 in
theorem okM_241 : ok_M 241 30 = true := by decide +kernel
set_option maxRecDepth 100000 in
theorem okM_242 : ok_M 242 74 = true := by decide +kernel
set_option maxRecDepth 100000 in
theorem okM_243 : ok_M 243 21 = true := by decide +kernel
set_option maxRecDepth 100000 in
theorem okM_244 : ok_M 244 28 = true := by decide +kernel
theorem okA_0 : ∀ k, 0 ≤ k → k < 16 → ∀ pc ci nx, cm_code k pc = some (ci, nx) → ok_I k pc ci nx = true := by
  intro k h1 h2 pc ci nx hc
  rcases Nat.lt_or_ge k 1 with h | h
  · have e : k = 0 := by omega
    subst e
    exact ok_of okM_0 cb_0 hc
  rcases Nat.lt_or_ge k 2 with h | h
  · have e : k = 1 := by omega
    subst e
    exact ok_of okM_1 cb_1 hc
  rcases Nat.lt_or_ge k 3 with h | h
  · have e : k = 2 := by omega
    subst e
    exact ok_of okM_2 cb_2 hc
  rcases Nat.lt_or_ge k 4 with h | h
  · have e : k = 3 := by omega
    subst e
    exact ok_of okM_3 cb_3 hc
  rcases Nat.lt_or_ge k 5 with h | h
  · have e : k = 4 := by omega
    subst e
    exact ok_of okM_4 cb_4 hc
  rcases Nat.lt_or_ge k 6 with h | h
  · have e : k = 5 := by omega
    subst e
    exact ok_of okM_5 cb_5 hc
  rcases Nat.lt_or_ge k 7 with h | h
  · have e : k = 6 := by omega
    subst e
    exact ok_of okM_6 cb_6 hc
  rcases Nat.lt_or_ge k 8 with h | h
  · have e : k = 7 := by omega
    subst e
    exact ok_of okM_7 cb_7 hc
  rcases Nat.lt_or_ge k 9 with h | h
  · have e : k = 8 := by omega
    subst e
    exact ok_of okM_8 cb_8 hc
  rcases Nat.lt_or_ge k 10 with h | h
  · have e : k = 9 := by omega
    subst e
    exact ok_of okM_9 cb_9 hc
  rcases Nat.lt_or_ge k 11 with h | h
  · have e : k = 10 := by omega
    subst e
    exact ok_of okM_10 cb_10 hc
  rcases Nat.lt_or_ge k 12 with h | h
  · have e : k = 11 := by omega
    subst e
    exact ok_of okM_11 cb_11 hc
  rcases Nat.lt_or_ge k 13 with h | h
  · have e : k = 12 := by omega
    subst e
    exact ok_of okM_12 cb_12 hc
  rcases Nat.lt_or_ge k 14 with h | h
  · have e : k = 13 := by omega
    subst e
    exact ok_of okM_13 cb_13 hc
  rcases Nat.lt_or_ge k 15 with h | h
  · have e : k = 14 := by omega
    subst e
    exact ok_of okM_14 cb_14 hc
  rcases Nat.lt_or_ge k 16 with h | h
  · have e : k = 15 := by omega
    subst e
    exact ok_of okM_15 cb_15 hc
  omega
theorem okA_16 : ∀ k, 16 ≤ k → k < 32 → ∀ pc ci nx, cm_code k pc = some (ci, nx) → ok_I k pc ci nx = true := by
  intro k h1 h2 pc ci nx hc
  rcases Nat.lt_or_ge k 17 with h | h
  · have e : k = 16 := by omega
    subst e
    exact ok_of okM_16 cb_16 hc
  rcases Nat.lt_or_ge k 18 with h | h
  · have e : k = 17 := by omega
    subst e
    exact ok_of okM_17 cb_17 hc
  rcases Nat.lt_or_ge k 19 with h | h
  · have e : k = 18 := by omega
    subst e
    exact ok_of okM_18 cb_18 hc
  rcases Nat.lt_or_ge k 20 with h | h
  · have e : k = 19 := by omega
    subst e
    exact ok_of okM_19 cb_19 hc
  rcases Nat.lt_or_ge k 21 with h | h
  · have e : k = 20 := by omega
    subst e
    exact ok_of okM_20 cb_20 hc
  rcases Nat.lt_or_ge k 22 with h | h
  · have e : k = 21 := by omega
    subst e
    exact ok_of okM_21 cb_21 hc
  rcases Nat.lt_or_ge k 23 with h | h
  · have e : k = 22 := by omega
    subst e
    exact ok_of okM_22 cb_22 hc
  rcases Nat.lt_or_ge k 24 with h | h
  · have e : k = 23 := by omega
    subst e
    exact ok_of okM_23 cb_23 hc
  rcases Nat.lt_or_ge k 25 with h | h
  · have e : k = 24 := by omega
    subst e
    exact ok_of okM_24 cb_24 hc
  rcases Nat.lt_or_ge k 26 with h | h
  · have e : k = 25 := by omega
    subst e
    exact ok_of okM_25 cb_25 hc
  rcases Nat.lt_or_ge k 27 with h | h
  · have e : k = 26 := by omega
    subst e
    exact ok_of okM_26 cb_26 hc
  rcases Nat.lt_or_ge k 28 with h | h
  · have e : k = 27 := by omega
    subst e
    exact ok_of okM_27 cb_27 hc
  rcases Nat.lt_or_ge k 29 with h | h
  · have e : k = 28 := by omega
    subst e
    exact ok_of okM_28 cb_28 hc
  rcases Nat.lt_or_ge k 30 with h | h
  · have e : k = 29 := by omega
    subst e
    exact ok_of okM_29 cb_29 hc
  rcases Nat.lt_or_ge k 31 with h | h
  · have e : k = 30 := by omega
    subst e
    exact ok_of okM_30 cb_30 hc
  rcases Nat.lt_or_ge k 32 with h | h
  · have e : k = 31 := by omega
    subst e
    exact ok_of okM_31 cb_31 hc
  omega
theorem okA_32 : ∀ k, 32 ≤ k → k < 48 → ∀ pc ci nx, cm_code k pc = some (ci, nx) → ok_I k pc ci nx = true := by
  intro k h1 h2 pc ci nx hc
  rcases Nat.lt_or_ge k 33 with h | h
  · have e : k = 32 := by omega
    subst e
    exact ok_of okM_32 cb_32 hc
  rcases Nat.lt_or_ge k 34 with h | h
  · have e : k = 33 := by omega
    subst e
    exact ok_of okM_33 cb_33 hc
  rcases Nat.lt_or_ge k 35 with h | h
  · have e : k = 34 := by omega
    subst e
    exact ok_of okM_34 cb_34 hc
  rcases Nat.lt_or_ge k 36 with h | h
  · have e : k = 35 := by omega
    subst e
    exact ok_of okM_35 cb_35 hc
  rcases Nat.lt_or_ge k 37 with h | h
  · have e : k = 36 := by omega
    subst e
    exact ok_of okM_36 cb_36 hc
  rcases Nat.lt_or_ge k 38 with h | h
  · have e : k = 37 := by omega
    subst e
    exact ok_of okM_37 cb_37 hc
  rcases Nat.lt_or_ge k 39 with h | h
  · have e : k = 38 := by omega
    subst e
    exact ok_of okM_38 cb_38 hc
  rcases Nat.lt_or_ge k 40 with h | h
  · have e : k = 39 := by omega
    subst e
    exact ok_of okM_39 cb_39 hc
  rcases Nat.lt_or_ge k 41 with h | h
  · have e : k = 40 := by omega
    subst e
    exact ok_of okM_40 cb_40 hc
  rcases Nat.lt_or_ge k 42 with h | h
  · have e : k = 41 := by omega
    subst e
    exact ok_of okM_41 cb_41 hc
  rcases Nat.lt_or_ge k 43 with h | h
  · have e : k = 42 := by omega
    subst e
    exact ok_of okM_42 cb_42 hc
  rcases Nat.lt_or_ge k 44 with h | h
  · have e : k = 43 := by omega
    subst e
    exact ok_of okM_43 cb_43 hc
  rcases Nat.lt_or_ge k 45 with h | h
  · have e : k = 44 := by omega
    subst e
    exact ok_of okM_44 cb_44 hc
  rcases Nat.lt_or_ge k 46 with h | h
  · have e : k = 45 := by omega
    subst e
    exact ok_of okM_45 cb_45 hc
  rcases Nat.lt_or_ge k 47 with h | h
  · have e : k = 46 := by omega
    subst e
    exact ok_of okM_46 cb_46 hc
  rcases Nat.lt_or_ge k 48 with h | h
  · have e : k = 47 := by omega
    subst e
    exact ok_of okM_47 cb_47 hc
  omega
theorem okA_48 : ∀ k, 48 ≤ k → k < 64 → ∀ pc ci nx, cm_code k pc = some (ci, nx) → ok_I k pc ci nx = true := by
  intro k h1 h2 pc ci nx hc
  rcases Nat.lt_or_ge k 49 with h | h
  · have e : k = 48 := by omega
    subst e
    exact ok_of okM_48 cb_48 hc
  rcases Nat.lt_or_ge k 50 with h | h
  · have e : k = 49 := by omega
    subst e
    exact ok_of okM_49 cb_49 hc
  rcases Nat.lt_or_ge k 51 with h | h
  · have e : k = 50 := by omega
    subst e
    exact ok_of okM_50 cb_50 hc
  rcases Nat.lt_or_ge k 52 with h | h
  · have e : k = 51 := by omega
    subst e
    exact ok_of okM_51 cb_51 hc
  rcases Nat.lt_or_ge k 53 with h | h
  · have e : k = 52 := by omega
    subst e
    exact ok_of okM_52 cb_52 hc
  rcases Nat.lt_or_ge k 54 with h | h
  · have e : k = 53 := by omega
    subst e
    exact ok_of okM_53 cb_53 hc
  rcases Nat.lt_or_ge k 55 with h | h
  · have e : k = 54 := by omega
    subst e
    exact ok_of okM_54 cb_54 hc
  rcases Nat.lt_or_ge k 56 with h | h
  · have e : k = 55 := by omega
    subst e
    exact ok_of okM_55 cb_55 hc
  rcases Nat.lt_or_ge k 57 with h | h
  · have e : k = 56 := by omega
    subst e
    exact ok_of okM_56 cb_56 hc
  rcases Nat.lt_or_ge k 58 with h | h
  · have e : k = 57 := by omega
    subst e
    exact ok_of okM_57 cb_57 hc
  rcases Nat.lt_or_ge k 59 with h | h
  · have e : k = 58 := by omega
    subst e
    exact ok_of okM_58 cb_58 hc
  rcases Nat.lt_or_ge k 60 with h | h
  · have e : k = 59 := by omega
    subst e
    exact ok_of okM_59 cb_59 hc
  rcases Nat.lt_or_ge k 61 with h | h
  · have e : k = 60 := by omega
    subst e
    exact ok_of okM_60 cb_60 hc
  rcases Nat.lt_or_ge k 62 with h | h
  · have e : k = 61 := by omega
    subst e
    exact ok_of okM_61 cb_61 hc
  rcases Nat.lt_or_ge k 63 with h | h
  · have e : k = 62 := by omega
    subst e
    exact ok_of okM_62 cb_62 hc
  rcases Nat.lt_or_ge k 64 with h | h
  · have e : k = 63 := by omega
    subst e
    exact ok_of okM_63 cb_63 hc
  omega
theorem okA_64 : ∀ k, 64 ≤ k → k < 80 → ∀ pc ci nx, cm_code k pc = some (ci, nx) → ok_I k pc ci nx = true := by
  intro k h1 h2 pc ci nx hc
  rcases Nat.lt_or_ge k 65 with h | h
  · have e : k = 64 := by omega
    subst e
    exact ok_of okM_64 cb_64 hc
  rcases Nat.lt_or_ge k 66 with h | h
  · have e : k = 65 := by omega
    subst e
    exact ok_of okM_65 cb_65 hc
  rcases Nat.lt_or_ge k 67 with h | h
  · have e : k = 66 := by omega
    subst e
    exact ok_of okM_66 cb_66 hc
  rcases Nat.lt_or_ge k 68 with h | h
  · have e : k = 67 := by omega
    subst e
    exact ok_of okM_67 cb_67 hc
  rcases Nat.lt_or_ge k 69 with h | h
  · have e : k = 68 := by omega
    subst e
    exact ok_of okM_68 cb_68 hc
  rcases Nat.lt_or_ge k 70 with h | h
  · have e : k = 69 := by omega
    subst e
    exact ok_of okM_69 cb_69 hc
  rcases Nat.lt_or_ge k 71 with h | h
  · have e : k = 70 := by omega
    subst e
    exact ok_of okM_70 cb_70 hc
  rcases Nat.lt_or_ge k 72 with h | h
  · have e : k = 71 := by omega
    subst e
    exact ok_of okM_71 cb_71 hc
  rcases Nat.lt_or_ge k 73 with h | h
  · have e : k = 72 := by omega
    subst e
    exact ok_of okM_72 cb_72 hc
  rcases Nat.lt_or_ge k 74 with h | h
  · have e : k = 73 := by omega
    subst e
    exact ok_of okM_73 cb_73 hc
  rcases Nat.lt_or_ge k 75 with h | h
  · have e : k = 74 := by omega
    subst e
    exact ok_of okM_74 cb_74 hc
  rcases Nat.lt_or_ge k 76 with h | h
  · have e : k = 75 := by omega
    subst e
    exact ok_of okM_75 cb_75 hc
  rcases Nat.lt_or_ge k 77 with h | h
  · have e : k = 76 := by omega
    subst e
    exact ok_of okM_76 cb_76 hc
  rcases Nat.lt_or_ge k 78 with h | h
  · have e : k = 77 := by omega
    subst e
    exact ok_of okM_77 cb_77 hc
  rcases Nat.lt_or_ge k 79 with h | h
  · have e : k = 78 := by omega
    subst e
    exact ok_of okM_78 cb_78 hc
  rcases Nat.lt_or_ge k 80 with h | h
  · have e : k = 79 := by omega
    subst e
    exact ok_of okM_79 cb_79 hc
  omega
theorem okA_80 : ∀ k, 80 ≤ k → k < 96 → ∀ pc ci nx, cm_code k pc = some (ci, nx) → ok_I k pc ci nx = true := by
  intro k h1 h2 pc ci nx hc
  rcases Nat.lt_or_ge k 81 with h | h
  · have e : k = 80 := by omega
    subst e
    exact ok_of okM_80 cb_80 hc
  rcases Nat.lt_or_ge k 82 with h | h
  · have e : k = 81 := by omega
    subst e
    exact ok_of okM_81 cb_81 hc
  rcases Nat.lt_or_ge k 83 with h | h
  · have e : k = 82 := by omega
    subst e
    exact ok_of okM_82 cb_82 hc
  rcases Nat.lt_or_ge k 84 with h | h
  · have e : k = 83 := by omega
    subst e
    exact ok_of okM_83 cb_83 hc
  rcases Nat.lt_or_ge k 85 with h | h
  · have e : k = 84 := by omega
    subst e
    exact ok_of okM_84 cb_84 hc
  rcases Nat.lt_or_ge k 86 with h | h
  · have e : k = 85 := by omega
    subst e
    exact ok_of okM_85 cb_85 hc
  rcases Nat.lt_or_ge k 87 with h | h
  · have e : k = 86 := by omega
    subst e
    exact ok_of okM_86 cb_86 hc
  rcases Nat.lt_or_ge k 88 with h | h
  · have e : k = 87 := by omega
    subst e
    exact ok_of okM_87 cb_87 hc
  rcases Nat.lt_or_ge k 89 with h | h
  · have e : k = 88 := by omega
    subst e
    exact ok_of okM_88 cb_88 hc
  rcases Nat.lt_or_ge k 90 with h | h
  · have e : k = 89 := by omega
    subst e
    exact ok_of okM_89 cb_89 hc
  rcases Nat.lt_or_ge k 91 with h | h
  · have e : k = 90 := by omega
    subst e
    exact ok_of okM_90 cb_90 hc
  rcases Nat.lt_or_ge k 92 with h | h
  · have e : k = 91 := by omega
    subst e
    exact ok_of okM_91 cb_91 hc
  rcases Nat.lt_or_ge k 93 with h | h
  · have e : k = 92 := by omega
    subst e
    exact ok_of okM_92 cb_92 hc
  rcases Nat.lt_or_ge k 94 with h | h
  · have e : k = 93 := by omega
    subst e
    exact ok_of okM_93 cb_93 hc
  rcases Nat.lt_or_ge k 95 with h | h
  · have e : k = 94 := by omega
    subst e
    exact ok_of okM_94 cb_94 hc
  rcases Nat.lt_or_ge k 96 with h | h
  · have e : k = 95 := by omega
    subst e
    exact ok_of okM_95 cb_95 hc
  omega
theorem okA_96 : ∀ k, 96 ≤ k → k < 112 → ∀ pc ci nx, cm_code k pc = some (ci, nx) → ok_I k pc ci nx = true := by
  intro k h1 h2 pc ci nx hc
  rcases Nat.lt_or_ge k 97 with h | h
  · have e : k = 96 := by omega
    subst e
    exact ok_of okM_96 cb_96 hc
  rcases Nat.lt_or_ge k 98 with h | h
  · have e : k = 97 := by omega
    subst e
    exact ok_of okM_97 cb_97 hc
  rcases Nat.lt_or_ge k 99 with h | h
  · have e : k = 98 := by omega
    subst e
    exact ok_of okM_98 cb_98 hc
  rcases Nat.lt_or_ge k 100 with h | h
  · have e : k = 99 := by omega
    subst e
    exact ok_of okM_99 cb_99 hc
  rcases Nat.lt_or_ge k 101 with h | h
  · have e : k = 100 := by omega
    subst e
    exact ok_of okM_100 cb_100 hc
  rcases Nat.lt_or_ge k 102 with h | h
  · have e : k = 101 := by omega
    subst e
    exact ok_of okM_101 cb_101 hc
  rcases Nat.lt_or_ge k 103 with h | h
  · have e : k = 102 := by omega
    subst e
    exact ok_of okM_102 cb_102 hc
  rcases Nat.lt_or_ge k 104 with h | h
  · have e : k = 103 := by omega
    subst e
    exact ok_of okM_103 cb_103 hc
  rcases Nat.lt_or_ge k 105 with h | h
  · have e : k = 104 := by omega
    subst e
    exact ok_of okM_104 cb_104 hc
  rcases Nat.lt_or_ge k 106 with h | h
  · have e : k = 105 := by omega
    subst e
    exact ok_of okM_105 cb_105 hc
  rcases Nat.lt_or_ge k 107 with h | h
  · have e : k = 106 := by omega
    subst e
    exact ok_of okM_106 cb_106 hc
  rcases Nat.lt_or_ge k 108 with h | h
  · have e : k = 107 := by omega
    subst e
    exact ok_of okM_107 cb_107 hc
  rcases Nat.lt_or_ge k 109 with h | h
  · have e : k = 108 := by omega
    subst e
    exact ok_of okM_108 cb_108 hc
  rcases Nat.lt_or_ge k 110 with h | h
  · have e : k = 109 := by omega
    subst e
    exact ok_of okM_109 cb_109 hc
  rcases Nat.lt_or_ge k 111 with h | h
  · have e : k = 110 := by omega
    subst e
    exact ok_of okM_110 cb_110 hc
  rcases Nat.lt_or_ge k 112 with h | h
  · have e : k = 111 := by omega
    subst e
    exact ok_of okM_111 cb_111 hc
  omega
theorem okA_112 : ∀ k, 112 ≤ k → k < 128 → ∀ pc ci nx, cm_code k pc = some (ci, nx) → ok_I k pc ci nx = true := by
  intro k h1 h2 pc ci nx hc
  rcases Nat.lt_or_ge k 113 with h | h
  · have e : k = 112 := by omega
    subst e
    exact ok_of okM_112 cb_112 hc
  rcases Nat.lt_or_ge k 114 with h | h
  · have e : k = 113 := by omega
    subst e
    exact ok_of okM_113 cb_113 hc
  rcases Nat.lt_or_ge k 115 with h | h
  · have e : k = 114 := by omega
    subst e
    exact ok_of okM_114 cb_114 hc
  rcases Nat.lt_or_ge k 116 with h | h
  · have e : k = 115 := by omega
    subst e
    exact ok_of okM_115 cb_115 hc
  rcases Nat.lt_or_ge k 117 with h | h
  · have e : k = 116 := by omega
    subst e
    exact ok_of okM_116 cb_116 hc
  rcases Nat.lt_or_ge k 118 with h | h
  · have e : k = 117 := by omega
    subst e
    exact ok_of okM_117 cb_117 hc
  rcases Nat.lt_or_ge k 119 with h | h
  · have e : k = 118 := by omega
    subst e
    exact ok_of okM_118 cb_118 hc
  rcases Nat.lt_or_ge k 120 with h | h
  · have e : k = 119 := by omega
    subst e
    exact ok_of okM_119 cb_119 hc
  rcases Nat.lt_or_ge k 121 with h | h
  · have e : k = 120 := by omega
    subst e
    exact ok_of okM_120 cb_120 hc
  rcases Nat.lt_or_ge k 122 with h | h
  · have e : k = 121 := by omega
    subst e
    exact ok_of okM_121 cb_121 hc
  rcases Nat.lt_or_ge k 123 with h | h
  · have e : k = 122 := by omega
    subst e
    exact ok_of okM_122 cb_122 hc
  rcases Nat.lt_or_ge k 124 with h | h
  · have e : k = 123 := by omega
    subst e
    exact ok_of okM_123 cb_123 hc
  rcases Nat.lt_or_ge k 125 with h | h
  · have e : k = 124 := by omega
    subst e
    exact ok_of okM_124 cb_124 hc
  rcases Nat.lt_or_ge k 126 with h | h
  · have e : k = 125 := by omega
    subst e
    exact ok_of okM_125 cb_125 hc
  rcases Nat.lt_or_ge k 127 with h | h
  · have e : k = 126 := by omega
    subst e
    exact ok_of okM_126 cb_126 hc
  rcases Nat.lt_or_ge k 128 with h | h
  · have e : k = 127 := by omega
    subst e
    exact ok_of okM_127 cb_127 hc
  omega
theorem okA_128 : ∀ k, 128 ≤ k → k < 144 → ∀ pc ci nx, cm_code k pc = some (ci, nx) → ok_I k pc ci nx = true := by
  intro k h1 h2 pc ci nx hc
  rcases Nat.lt_or_ge k 129 with h | h
  · have e : k = 128 := by omega
    subst e
    exact ok_of okM_128 cb_128 hc
  rcases Nat.lt_or_ge k 130 with h | h
  · have e : k = 129 := by omega
    subst e
    exact ok_of okM_129 cb_129 hc
  rcases Nat.lt_or_ge k 131 with h | h
  · have e : k = 130 := by omega
    subst e
    exact ok_of okM_130 cb_130 hc
  rcases Nat.lt_or_ge k 132 with h | h
  · have e : k = 131 := by omega
    subst e
    exact ok_of okM_131 cb_131 hc
  rcases Nat.lt_or_ge k 133 with h | h
  · have e : k = 132 := by omega
    subst e
    exact ok_of okM_132 cb_132 hc
  rcases Nat.lt_or_ge k 134 with h | h
  · have e : k = 133 := by omega
    subst e
    exact ok_of okM_133 cb_133 hc
  rcases Nat.lt_or_ge k 135 with h | h
  · have e : k = 134 := by omega
    subst e
    exact ok_of okM_134 cb_134 hc
  rcases Nat.lt_or_ge k 136 with h | h
  · have e : k = 135 := by omega
    subst e
    exact ok_of okM_135 cb_135 hc
  rcases Nat.lt_or_ge k 137 with h | h
  · have e : k = 136 := by omega
    subst e
    exact ok_of okM_136 cb_136 hc
  rcases Nat.lt_or_ge k 138 with h | h
  · have e : k = 137 := by omega
    subst e
    exact ok_of okM_137 cb_137 hc
  rcases Nat.lt_or_ge k 139 with h | h
  · have e : k = 138 := by omega
    subst e
    exact ok_of okM_138 cb_138 hc
  rcases Nat.lt_or_ge k 140 with h | h
  · have e : k = 139 := by omega
    subst e
    exact ok_of okM_139 cb_139 hc
  rcases Nat.lt_or_ge k 141 with h | h
  · have e : k = 140 := by omega
    subst e
    exact ok_of okM_140 cb_140 hc
  rcases Nat.lt_or_ge k 142 with h | h
  · have e : k = 141 := by omega
    subst e
    exact ok_of okM_141 cb_141 hc
  rcases Nat.lt_or_ge k 143 with h | h
  · have e : k = 142 := by omega
    subst e
    exact ok_of okM_142 cb_142 hc
  rcases Nat.lt_or_ge k 144 with h | h
  · have e : k = 143 := by omega
    subst e
    exact ok_of okM_143 cb_143 hc
  omega
theorem okA_144 : ∀ k, 144 ≤ k → k < 160 → ∀ pc ci nx, cm_code k pc = some (ci, nx) → ok_I k pc ci nx = true := by
  intro k h1 h2 pc ci nx hc
  rcases Nat.lt_or_ge k 145 with h | h
  · have e : k = 144 := by omega
    subst e
    exact ok_of okM_144 cb_144 hc
  rcases Nat.lt_or_ge k 146 with h | h
  · have e : k = 145 := by omega
    subst e
    exact ok_of okM_145 cb_145 hc
  rcases Nat.lt_or_ge k 147 with h | h
  · have e : k = 146 := by omega
    subst e
    exact ok_of okM_146 cb_146 hc
  rcases Nat.lt_or_ge k 148 with h | h
  · have e : k = 147 := by omega
    subst e
    exact ok_of okM_147 cb_147 hc
  rcases Nat.lt_or_ge k 149 with h | h
  · have e : k = 148 := by omega
    subst e
    exact ok_of okM_148 cb_148 hc
  rcases Nat.lt_or_ge k 150 with h | h
  · have e : k = 149 := by omega
    subst e
    exact ok_of okM_149 cb_149 hc
  rcases Nat.lt_or_ge k 151 with h | h
  · have e : k = 150 := by omega
    subst e
    exact ok_of okM_150 cb_150 hc
  rcases Nat.lt_or_ge k 152 with h | h
  · have e : k = 151 := by omega
    subst e
    exact ok_of okM_151 cb_151 hc
  rcases Nat.lt_or_ge k 153 with h | h
  · have e : k = 152 := by omega
    subst e
    exact ok_of okM_152 cb_152 hc
  rcases Nat.lt_or_ge k 154 with h | h
  · have e : k = 153 := by omega
    subst e
    exact ok_of okM_153 cb_153 hc
  rcases Nat.lt_or_ge k 155 with h | h
  · have e : k = 154 := by omega
    subst e
    exact ok_of okM_154 cb_154 hc
  rcases Nat.lt_or_ge k 156 with h | h
  · have e : k = 155 := by omega
    subst e
    exact ok_of okM_155 cb_155 hc
  rcases Nat.lt_or_ge k 157 with h | h
  · have e : k = 156 := by omega
    subst e
    exact ok_of okM_156 cb_156 hc
  rcases Nat.lt_or_ge k 158 with h | h
  · have e : k = 157 := by omega
    subst e
    exact ok_of okM_157 cb_157 hc
  rcases Nat.lt_or_ge k 159 with h | h
  · have e : k = 158 := by omega
    subst e
    exact ok_of okM_158 cb_158 hc
  rcases Nat.lt_or_ge k 160 with h | h
  · have e : k = 159 := by omega
    subst e
    exact ok_of okM_159 cb_159 hc
  omega
theorem okA_160 : ∀ k, 160 ≤ k → k < 176 → ∀ pc ci nx, cm_code k pc = some (ci, nx) → ok_I k pc ci nx = true := by
  intro k h1 h2 pc ci nx hc
  rcases Nat.lt_or_ge k 161 with h | h
  · have e : k = 160 := by omega
    subst e
    exact ok_of okM_160 cb_160 hc
  rcases Nat.lt_or_ge k 162 with h | h
  · have e : k = 161 := by omega
    subst e
    exact ok_of okM_161 cb_161 hc
  rcases Nat.lt_or_ge k 163 with h | h
  · have e : k = 162 := by omega
    subst e
    exact ok_of okM_162 cb_162 hc
  rcases Nat.lt_or_ge k 164 with h | h
  · have e : k = 163 := by omega
    subst e
    exact ok_of okM_163 cb_163 hc
  rcases Nat.lt_or_ge k 165 with h | h
  · have e : k = 164 := by omega
    subst e
    exact ok_of okM_164 cb_164 hc
  rcases Nat.lt_or_ge k 166 with h | h
  · have e : k = 165 := by omega
    subst e
    exact ok_of okM_165 cb_165 hc
  rcases Nat.lt_or_ge k 167 with h | h
  · have e : k = 166 := by omega
    subst e
    exact ok_of okM_166 cb_166 hc
  rcases Nat.lt_or_ge k 168 with h | h
  · have e : k = 167 := by omega
    subst e
    exact ok_of okM_167 cb_167 hc
  rcases Nat.lt_or_ge k 169 with h | h
  · have e : k = 168 := by omega
    subst e
    exact ok_of okM_168 cb_168 hc
  rcases Nat.lt_or_ge k 170 with h | h
  · have e : k = 169 := by omega
    subst e
    exact ok_of okM_169 cb_169 hc
  rcases Nat.lt_or_ge k 171 with h | h
  · have e : k = 170 := by omega
    subst e
    exact ok_of okM_170 cb_170 hc
  rcases Nat.lt_or_ge k 172 with h | h
  · have e : k = 171 := by omega
    subst e
    exact ok_of okM_171 cb_171 hc
  rcases Nat.lt_or_ge k 173 with h | h
  · have e : k = 172 := by omega
    subst e
    exact ok_of okM_172 cb_172 hc
  rcases Nat.lt_or_ge k 174 with h | h
  · have e : k = 173 := by omega
    subst e
    exact ok_of okM_173 cb_173 hc
  rcases Nat.lt_or_ge k 175 with h | h
  · have e : k = 174 := by omega
    subst e
    exact ok_of okM_174 cb_174 hc
  rcases Nat.lt_or_ge k 176 with h | h
  · have e : k = 175 := by omega
    subst e
    exact ok_of okM_175 cb_175 hc
  omega
theorem okA_176 : ∀ k, 176 ≤ k → k < 192 → ∀ pc ci nx, cm_code k pc = some (ci, nx) → ok_I k pc ci nx = true := by
  intro k h1 h2 pc ci nx hc
  rcases Nat.lt_or_ge k 177 with h | h
  · have e : k = 176 := by omega
    subst e
    exact ok_of okM_176 cb_176 hc
  rcases Nat.lt_or_ge k 178 with h | h
  · have e : k = 177 := by omega
    subst e
    exact ok_of okM_177 cb_177 hc
  rcases Nat.lt_or_ge k 179 with h | h
  · have e : k = 178 := by omega
    subst e
    exact ok_of okM_178 cb_178 hc
  rcases Nat.lt_or_ge k 180 with h | h
  · have e : k = 179 := by omega
    subst e
    exact ok_of okM_179 cb_179 hc
  rcases Nat.lt_or_ge k 181 with h | h
  · have e : k = 180 := by omega
    subst e
    exact ok_of okM_180 cb_180 hc
  rcases Nat.lt_or_ge k 182 with h | h
  · have e : k = 181 := by omega
    subst e
    exact ok_of okM_181 cb_181 hc
  rcases Nat.lt_or_ge k 183 with h | h
  · have e : k = 182 := by omega
    subst e
    exact ok_of okM_182 cb_182 hc
  rcases Nat.lt_or_ge k 184 with h | h
  · have e : k = 183 := by omega
    subst e
    exact ok_of okM_183 cb_183 hc
  rcases Nat.lt_or_ge k 185 with h | h
  · have e : k = 184 := by omega
    subst e
    exact ok_of okM_184 cb_184 hc
  rcases Nat.lt_or_ge k 186 with h | h
  · have e : k = 185 := by omega
    subst e
    exact ok_of okM_185 cb_185 hc
  rcases Nat.lt_or_ge k 187 with h | h
  · have e : k = 186 := by omega
    subst e
    exact ok_of okM_186 cb_186 hc
  rcases Nat.lt_or_ge k 188 with h | h
  · have e : k = 187 := by omega
    subst e
    exact ok_of okM_187 cb_187 hc
  rcases Nat.lt_or_ge k 189 with h | h
  · have e : k = 188 := by omega
    subst e
    exact ok_of okM_188 cb_188 hc
  rcases Nat.lt_or_ge k 190 with h | h
  · have e : k = 189 := by omega
    subst e
    exact ok_of okM_189 cb_189 hc
  rcases Nat.lt_or_ge k 191 with h | h
  · have e : k = 190 := by omega
    subst e
    exact ok_of okM_190 cb_190 hc
  rcases Nat.lt_or_ge k 192 with h | h
  · have e : k = 191 := by omega
    subst e
    exact ok_of okM_191 cb_191 hc
  omega
theorem okA_192 : ∀ k, 192 ≤ k → k < 208 → ∀ pc ci nx, cm_code k pc = some (ci, nx) → ok_I k pc ci nx = true := by
  intro k h1 h2 pc ci nx hc
  rcases Nat.lt_or_ge k 193 with h | h
  · have e : k = 192 := by omega
    subst e
    exact ok_of okM_192 cb_192 hc
  rcases Nat.lt_or_ge k 194 with h | h
  · have e : k = 193 := by omega
    subst e
    exact ok_of okM_193 cb_193 hc
  rcases Nat.lt_or_ge k 195 with h | h
  · have e : k = 194 := by omega
    subst e
    exact ok_of okM_194 cb_194 hc
  rcases Nat.lt_or_ge k 196 with h | h
  · have e : k = 195 := by omega
    subst e
    exact ok_of okM_195 cb_195 hc
  rcases Nat.lt_or_ge k 197 with h | h
  · have e : k = 196 := by omega
    subst e
    exact ok_of okM_196 cb_196 hc
  rcases Nat.lt_or_ge k 198 with h | h
  · have e : k = 197 := by omega
    subst e
    exact ok_of okM_197 cb_197 hc
  rcases Nat.lt_or_ge k 199 with h | h
  · have e : k = 198 := by omega
    subst e
    exact ok_of okM_198 cb_198 hc
  rcases Nat.lt_or_ge k 200 with h | h
  · have e : k = 199 := by omega
    subst e
    exact ok_of okM_199 cb_199 hc
  rcases Nat.lt_or_ge k 201 with h | h
  · have e : k = 200 := by omega
    subst e
    exact ok_of okM_200 cb_200 hc
  rcases Nat.lt_or_ge k 202 with h | h
  · have e : k = 201 := by omega
    subst e
    exact ok_of okM_201 cb_201 hc
  rcases Nat.lt_or_ge k 203 with h | h
  · have e : k = 202 := by omega
    subst e
    exact ok_of okM_202 cb_202 hc
  rcases Nat.lt_or_ge k 204 with h | h
  · have e : k = 203 := by omega
    subst e
    exact ok_of okM_203 cb_203 hc
  rcases Nat.lt_or_ge k 205 with h | h
  · have e : k = 204 := by omega
    subst e
    exact ok_of okM_204 cb_204 hc
  rcases Nat.lt_or_ge k 206 with h | h
  · have e : k = 205 := by omega
    subst e
    exact ok_of okM_205 cb_205 hc
  rcases Nat.lt_or_ge k 207 with h | h
  · have e : k = 206 := by omega
    subst e
    exact ok_of okM_206 cb_206 hc
  rcases Nat.lt_or_ge k 208 with h | h
  · have e : k = 207 := by omega
    subst e
    exact ok_of okM_207 cb_207 hc
  omega
theorem okA_208 : ∀ k, 208 ≤ k → k < 224 → ∀ pc ci nx, cm_code k pc = some (ci, nx) → ok_I k pc ci nx = true := by
  intro k h1 h2 pc ci nx hc
  rcases Nat.lt_or_ge k 209 with h | h
  · have e : k = 208 := by omega
    subst e
    exact ok_of okM_208 cb_208 hc
  rcases Nat.lt_or_ge k 210 with h | h
  · have e : k = 209 := by omega
    subst e
    exact ok_of okM_209 cb_209 hc
  rcases Nat.lt_or_ge k 211 with h | h
  · have e : k = 210 := by omega
    subst e
    exact ok_of okM_210 cb_210 hc
  rcases Nat.lt_or_ge k 212 with h | h
  · have e : k = 211 := by omega
    subst e
    exact ok_of okM_211 cb_211 hc
  rcases Nat.lt_or_ge k 213 with h | h
  · have e : k = 212 := by omega
    subst e
    exact ok_of okM_212 cb_212 hc
  rcases Nat.lt_or_ge k 214 with h | h
  · have e : k = 213 := by omega
    subst e
    exact ok_of okM_213 cb_213 hc
  rcases Nat.lt_or_ge k 215 with h | h
  · have e : k = 214 := by omega
    subst e
    exact ok_of okM_214 cb_214 hc
  rcases Nat.lt_or_ge k 216 with h | h
  · have e : k = 215 := by omega
    subst e
    exact ok_of okM_215 cb_215 hc
  rcases Nat.lt_or_ge k 217 with h | h
  · have e : k = 216 := by omega
    subst e
    exact ok_of okM_216 cb_216 hc
  rcases Nat.lt_or_ge k 218 with h | h
  · have e : k = 217 := by omega
    subst e
    exact ok_of okM_217 cb_217 hc
  rcases Nat.lt_or_ge k 219 with h | h
  · have e : k = 218 := by omega
    subst e
    exact ok_of okM_218 cb_218 hc
  rcases Nat.lt_or_ge k 220 with h | h
  · have e : k = 219 := by omega
    subst e
    exact ok_of okM_219 cb_219 hc
  rcases Nat.lt_or_ge k 221 with h | h
  · have e : k = 220 := by omega
    subst e
    exact ok_of okM_220 cb_220 hc
  rcases Nat.lt_or_ge k 222 with h | h
  · have e : k = 221 := by omega
    subst e
    exact ok_of okM_221 cb_221 hc
  rcases Nat.lt_or_ge k 223 with h | h
  · have e : k = 222 := by omega
    subst e
    exact ok_of okM_222 cb_222 hc
  rcases Nat.lt_or_ge k 224 with h | h
  · have e : k = 223 := by omega
    subst e
    exact ok_of okM_223 cb_223 hc
  omega
theorem okA_224 : ∀ k, 224 ≤ k → k < 240 → ∀ pc ci nx, cm_code k pc = some (ci, nx) → ok_I k pc ci nx = true := by
  intro k h1 h2 pc ci nx hc
  rcases Nat.lt_or_ge k 225 with h | h
  · have e : k = 224 := by omega
    subst e
    exact ok_of okM_224 cb_224 hc
  rcases Nat.lt_or_ge k 226 with h | h
  · have e : k = 225 := by omega
    subst e
    exact ok_of okM_225 cb_225 hc
  rcases Nat.lt_or_ge k 227 with h | h
  · have e : k = 226 := by omega
    subst e
    exact ok_of okM_226 cb_226 hc
  rcases Nat.lt_or_ge k 228 with h | h
  · have e : k = 227 := by omega
    subst e
    exact ok_of okM_227 cb_227 hc
  rcases Nat.lt_or_ge k 229 with h | h
  · have e : k = 228 := by omega
    subst e
    exact ok_of okM_228 cb_228 hc
  rcases Nat.lt_or_ge k 230 with h | h
  · have e : k = 229 := by omega
    subst e
    exact ok_of okM_229 cb_229 hc
  rcases Nat.lt_or_ge k 231 with h | h
  · have e : k = 230 := by omega
    subst e
    exact ok_of okM_230 cb_230 hc
  rcases Nat.lt_or_ge k 232 with h | h
  · have e : k = 231 := by omega
    subst e
    exact ok_of okM_231 cb_231 hc
  rcases Nat.lt_or_ge k 233 with h | h
  · have e : k = 232 := by omega
    subst e
    exact ok_of okM_232 cb_232 hc
  rcases Nat.lt_or_ge k 234 with h | h
  · have e : k = 233 := by omega
    subst e
    exact ok_of okM_233 cb_233 hc
  rcases Nat.lt_or_ge k 235 with h | h
  · have e : k = 234 := by omega
    subst e
    exact ok_of okM_234 cb_234 hc
  rcases Nat.lt_or_ge k 236 with h | h
  · have e : k = 235 := by omega
    subst e
    exact ok_of okM_235 cb_235 hc
  rcases Nat.lt_or_ge k 237 with h | h
  · have e : k = 236 := by omega
    subst e
    exact ok_of okM_236 cb_236 hc
  rcases Nat.lt_or_ge k 238 with h | h
  · have e : k = 237 := by omega
    subst e
    exact ok_of okM_237 cb_237 hc
  rcases Nat.lt_or_ge k 239 with h | h
  · have e : k = 238 := by omega
    subst e
    exact ok_of okM_238 cb_238 hc
  rcases Nat.lt_or_ge k 240 with h | h
  · have e : k = 239 := by omega
    subst e
    exact ok_of okM_239 cb_239 hc
  omega
theorem okA_240 : ∀ k, 240 ≤ k → k < 245 → ∀ pc ci nx, cm_code k pc = some (ci, nx) → ok_I k pc ci nx = true := by
  intro k h1 h2 pc ci nx hc
  rcases Nat.lt_or_ge k 241 with h | h
  · have e : k = 240 := by omega
    subst e
    exact ok_of okM_240 cb_240 hc
  rcases Nat.lt_or_ge k 242 with h | h
  · have e : k = 241 := by omega
    subst e
    exact ok_of okM_241 cb_241 hc
  rcases Nat.lt_or_ge k 243 with h | h
  · have e : k = 242 := by omega
    subst e
    exact ok_of okM_242 cb_242 hc
  rcases Nat.lt_or_ge k 244 with h | h
  · have e : k = 243 := by omega
    subst e
    exact ok_of okM_243 cb_243 hc
  rcases Nat.lt_or_ge k 245 with h | h
  · have e : k = 244 := by omega
    subst e
    exact ok_of okM_244 cb_244 hc
  omega
theorem ok_all {k : Nat} (hk : k < 245) : ∀ pc ci nx, cm_code k pc = some (ci, nx) → ok_I k pc ci nx = true := by
  rcases Nat.lt_or_ge k 16 with h | h
  · exact okA_0 k (by omega) h
  rcases Nat.lt_or_ge k 32 with h | h
  · exact okA_16 k (by omega) h
  rcases Nat.lt_or_ge k 48 with h | h
  · exact okA_32 k (by omega) h
  rcases Nat.lt_or_ge k 64 with h | h
  · exact okA_48 k (by omega) h
  rcases Nat.lt_or_ge k 80 with h | h
  · exact okA_64 k (by omega) h
  rcases Nat.lt_or_ge k 96 with h | h
  · exact okA_80 k (by omega) h
  rcases Nat.lt_or_ge k 112 with h | h
  · exact okA_96 k (by omega) h
  rcases Nat.lt_or_ge k 128 with h | h
  · exact okA_112 k (by omega) h
  rcases Nat.lt_or_ge k 144 with h | h
  · exact okA_128 k (by omega) h
  rcases Nat.lt_or_ge k 160 with h | h
  · exact okA_144 k (by omega) h
  rcases Nat.lt_or_ge k 176 with h | h
  · exact okA_160 k (by omega) h
  rcases Nat.lt_or_ge k 192 with h | h
  · exact okA_176 k (by omega) h
  rcases Nat.lt_or_ge k 208 with h | h
  · exact okA_192 k (by omega) h
  rcases Nat.lt_or_ge k 224 with h | h
  · exact okA_208 k (by omega) h
  rcases Nat.lt_or_ge k 240 with h | h
  · exact okA_224 k (by omega) h
  rcases Nat.lt_or_ge k 245 with h | h
  · exact okA_240 k (by omega) h
  omega
