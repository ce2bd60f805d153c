/-! THE CLEAN MACHINE'S VALUES on the machine -/
theorem i3_to {x : Int} (h : cm_i x) : (Int32.ofInt x).toInt = x := Int32.toInt_ofInt_of_le (by have := h.1; omega) (by have := h.2; omega)
theorem i6_to {x : Int} (h : cm_l x) : (Int64.ofInt x).toInt = x := Int64.toInt_ofInt_of_le (by have := h.1; omega) (by have := h.2; omega)
theorem i3_nat {x : Int} (h : cm_i x) : (Int32.ofInt x).toNatClampNeg = x.toNat := by
  show (Int32.ofInt x).toInt.toNat = _
  rw [i3_to h]
theorem i3_eq {x y : Int} (hx : cm_i x) (hy : cm_i y) : Int32.ofInt x = Int32.ofInt y ↔ x = y := by
  rw [← Int32.toInt_inj, i3_to hx, i3_to hy]
theorem i3_lt {x y : Int} (hx : cm_i x) (hy : cm_i y) : Int32.ofInt x < Int32.ofInt y ↔ x < y := by
  rw [Int32.lt_iff_toInt_lt, i3_to hx, i3_to hy]
theorem i3_le {x y : Int} (hx : cm_i x) (hy : cm_i y) : Int32.ofInt x ≤ Int32.ofInt y ↔ x ≤ y := by
  rw [Int32.le_iff_toInt_le, i3_to hx, i3_to hy]
theorem i3_0 : cm_i 0 := ⟨by decide, by decide⟩
theorem i3_z : Int32.ofInt 0 = 0 := by decide
theorem i3_div {x y : Int} (hx : cm_i x) (hy : cm_i y) (h0 : 0 < y) : Int32.ofInt x / Int32.ofInt y = Int32.ofInt (x.tdiv y) := by
  rw [← Int32.toInt_inj, Int32.toInt_div_of_ne_right _ _ (fun e => by
    have := congrArg Int32.toInt e
    rw [i3_to hy] at this
    have h2 : (-1 : Int32).toInt = -1 := by decide
    omega), i3_to hx, i3_to hy]
  symm
  apply i3_to
  have h1 := hx.1
  have h2 := hx.2
  rcases Int.le_total 0 x with h | h
  · have a := Int.tdiv_nonneg h (Int.le_of_lt h0)
    have b := Int.tdiv_le_self (b := y) h
    exact ⟨by omega, by omega⟩
  · have h3 : 0 ≤ -x := by omega
    have a := Int.tdiv_nonneg h3 (Int.le_of_lt h0)
    have b := Int.tdiv_le_self (b := y) h3
    rw [Int.neg_tdiv] at a b
    exact ⟨by omega, by omega⟩
theorem i3_div_ok {x y : Int} (hx : cm_i x) (h0 : 0 < y) : cm_i (x.tdiv y) := by
  have h1 := hx.1
  have h2 := hx.2
  rcases Int.le_total 0 x with h | h
  · have a := Int.tdiv_nonneg h (Int.le_of_lt h0)
    have b := Int.tdiv_le_self (b := y) h
    exact ⟨by omega, by omega⟩
  · have h3 : 0 ≤ -x := by omega
    have a := Int.tdiv_nonneg h3 (Int.le_of_lt h0)
    have b := Int.tdiv_le_self (b := y) h3
    rw [Int.neg_tdiv] at a b
    exact ⟨by omega, by omega⟩
theorem tm_bd {x y : Int} (h0 : 0 < y) : -y < x.tmod y ∧ x.tmod y < y ∧ (0 ≤ x → 0 ≤ x.tmod y) ∧ (x ≤ 0 → x.tmod y ≤ 0) := by
  have b := Int.tmod_lt_of_pos x h0
  rcases Int.le_total 0 x with h | h
  · have a := Int.tmod_nonneg (b := y) h
    refine ⟨by omega, b, fun _ => a, fun hx => ?_⟩
    have : x = 0 := by omega
    subst this
    simp
  · have h3 : 0 ≤ -x := by omega
    have a := Int.tmod_nonneg (b := y) h3
    have c := Int.tmod_lt_of_pos (-x) h0
    rw [Int.neg_tmod] at a c
    refine ⟨by omega, b, fun hx => ?_, fun _ => by omega⟩
    have : x = 0 := by omega
    subst this
    simp
theorem i3_rem {x y : Int} (hx : cm_i x) (hy : cm_i y) (h0 : 0 < y) : Int32.ofInt x - Int32.ofInt x / Int32.ofInt y * Int32.ofInt y = Int32.ofInt (x.tmod y) := by
  rw [i3_div hx hy h0, ← Int32.ofInt_mul, ← Int32.ofInt_sub]
  congr 1
  have := Int.tmod_add_tdiv_mul x y
  omega
theorem i3_rem_ok {x y : Int} (hy : cm_i y) (h0 : 0 < y) : cm_i (x.tmod y) := by
  have h := tm_bd (x := x) h0
  have h2 := hy.2
  exact ⟨by omega, by omega⟩
theorem i6_rem {x y : Int} (hx : cm_l x) (hy : cm_l y) (h0 : 0 < y) : Int64.ofInt x - Int64.ofInt x / Int64.ofInt y * Int64.ofInt y = Int64.ofInt (x.tmod y) := by
  have hd : Int64.ofInt x / Int64.ofInt y = Int64.ofInt (x.tdiv y) := by
    have hok : cm_l (x.tdiv y) := by
      have h1 := hx.1
      have h2 := hx.2
      rcases Int.le_total 0 x with h | h
      · have a := Int.tdiv_nonneg h (Int.le_of_lt h0)
        have b := Int.tdiv_le_self (b := y) h
        exact ⟨by omega, by omega⟩
      · have h3 : 0 ≤ -x := by omega
        have a := Int.tdiv_nonneg h3 (Int.le_of_lt h0)
        have b := Int.tdiv_le_self (b := y) h3
        rw [Int.neg_tdiv] at a b
        exact ⟨by omega, by omega⟩
    rw [← Int64.toInt_inj, Int64.toInt_div_of_ne_right _ _ (fun e => by
      have := congrArg Int64.toInt e
      rw [i6_to hy] at this
      have h2 : (-1 : Int64).toInt = -1 := by decide
      omega), i6_to hx, i6_to hy, i6_to hok]
  rw [hd, ← Int64.ofInt_mul, ← Int64.ofInt_sub]
  congr 1
  have := Int.tmod_add_tdiv_mul x y
  omega
theorem i6_rem_ok {x y : Int} (hy : cm_l y) (h0 : 0 < y) : cm_l (x.tmod y) := by
  have h := tm_bd (x := x) h0
  have h2 := hy.2
  exact ⟨by omega, by omega⟩
theorem i3_i2b {x : Int} : (Int32.ofInt x).toInt8.toInt32 = Int32.ofInt ((x + 128) % 256 - 128) := by
  have hb : (x + 128) % 256 - 128 = x.bmod 256 := by
    rw [Int.bmod_def]
    split <;> omega
  rw [hb, Int32.toInt8_ofInt, ← Int32.toInt_inj]
  have h1 : (Int8.ofInt x).toInt32.toInt = (Int8.ofInt x).toInt := by simp
  rw [h1, Int8.toInt_ofInt]
  rw [show Int8.size = 256 from rfl]
  symm
  apply i3_to
  have h2 := Int.bmod_lt (x := x) (m := 256) (by decide)
  have h3 := Int.le_bmod (x := x) (m := 256) (by decide)
  exact ⟨by omega, by omega⟩
theorem i3_i2b_ok {x : Int} : cm_i ((x + 128) % 256 - 128) := ⟨by omega, by omega⟩
theorem i3_i2l {x : Int} (hx : cm_i x) : (Int32.ofInt x).toInt64 = Int64.ofInt x := by
  rw [← Int64.toInt_inj, Int32.toInt_toInt64, i3_to hx, i6_to ⟨by have := hx.1; omega, by have := hx.2; omega⟩]
theorem i3_l2i {x : Int} : (Int64.ofInt x).toInt32 = Int32.ofInt x := Int64.toInt32_ofInt
theorem i3_and1 {x : Int} (hx : cm_i x) : Int32.ofInt x &&& Int32.ofInt 1 = Int32.ofInt (x % (1 + 1)) := by
  apply Int32.toBitVec_inj.mp
  apply BitVec.eq_of_toNat_eq
  have e1 : (Int32.ofInt x &&& Int32.ofInt 1).toBitVec = (Int32.ofInt x).toBitVec &&& 1#32 := rfl
  have e2 : ∀ z : Int, (Int32.ofInt z).toBitVec = BitVec.ofInt 32 z := fun z => rfl
  rw [e1, e2, e2, BitVec.toNat_and, BitVec.toNat_ofInt, BitVec.toNat_ofInt]
  have e3 : (1#32).toNat = 2 ^ 1 - 1 := rfl
  rw [e3, Nat.and_two_pow_sub_one_eq_mod]
  omega
theorem i3_and255 {x : Int} (hx : cm_i x) : Int32.ofInt x &&& Int32.ofInt 255 = Int32.ofInt (x % (255 + 1)) := by
  apply Int32.toBitVec_inj.mp
  apply BitVec.eq_of_toNat_eq
  have e1 : (Int32.ofInt x &&& Int32.ofInt 255).toBitVec = (Int32.ofInt x).toBitVec &&& 255#32 := rfl
  have e2 : ∀ z : Int, (Int32.ofInt z).toBitVec = BitVec.ofInt 32 z := fun z => rfl
  rw [e1, e2, e2, BitVec.toNat_and, BitVec.toNat_ofInt, BitVec.toNat_ofInt]
  have e3 : (255#32).toNat = 2 ^ 8 - 1 := rfl
  rw [e3, Nat.and_two_pow_sub_one_eq_mod]
  omega
theorem i3_and_ok {x y : Int} (hy : y = 1 ∨ y = 255) : cm_i (x % (y + 1)) := by
  rcases hy with rfl | rfl <;> exact ⟨by omega, by omega⟩
theorem i3_and {x y : Int} (hx : cm_i x) (hy : y = 1 ∨ y = 255) : Int32.ofInt x &&& Int32.ofInt y = Int32.ofInt (x % (y + 1)) := by
  rcases hy with rfl | rfl
  · exact i3_and1 hx
  · exact i3_and255 hx
theorem i3_shr_ok {x y : Int} (hx : cm_i x) : cm_i (x / 2 ^ y.toNat) := by
  have h1 := hx.1
  have h2 := hx.2
  have hp : (0 : Int) < 2 ^ y.toNat := Int.pow_pos (by decide)
  have hp1 : (1 : Int) ≤ 2 ^ y.toNat := hp
  generalize (2 : Int) ^ y.toNat = q at hp hp1
  refine ⟨?_, ?_⟩
  · apply Int.le_ediv_of_mul_le hp
    have : (-2147483648 : Int) * q ≤ -2147483648 * 1 := Int.mul_le_mul_of_nonpos_left (by decide) hp1
    omega
  · have : x / q ≤ 2147483647 / 1 := by
      have a : x / q ≤ 2147483647 / q := Int.ediv_le_ediv hp h2
      have b : (2147483647 : Int) / q ≤ 2147483647 := Int.ediv_le_self q (by decide)
      omega
    omega
theorem i3_shr {x y : Int} (hx : cm_i x) (hy : 0 ≤ y ∧ y < 32) : Int32.ofInt x >>> (Int32.ofInt y &&& 31) = Int32.ofInt (x / 2 ^ y.toNat) := by
  obtain ⟨h0, h1⟩ := hy
  obtain ⟨n, rfl⟩ : ∃ n : Nat, y = n := ⟨y.toNat, by omega⟩
  have hn : n < 32 := by omega
  have hk : (Int32.ofInt (n : Int) &&& 31) = Int32.ofNat n := by
    have : ∀ k : Fin 32, (Int32.ofInt ((k : Nat) : Int) &&& 31) = Int32.ofNat k := by decide
    exact this ⟨n, hn⟩
  rw [hk]
  apply Int32.toInt_inj.mp
  rw [i3_to (i3_shr_ok hx)]
  have e1 : (Int32.ofInt x >>> Int32.ofNat n).toInt = ((BitVec.ofInt 32 x).sshiftRight n).toInt := by
    have : ∀ k : Fin 32, ∀ v : Int32, (v >>> Int32.ofNat k).toBitVec = v.toBitVec.sshiftRight k := by
      intro k v
      rw [Int32.toBitVec_shiftRight]
      have hz : ((Int32.ofNat k).toBitVec.smod 32) = BitVec.ofNat 32 k := by
        have : ∀ k : Fin 32, ((Int32.ofNat k).toBitVec.smod 32) = BitVec.ofNat 32 k := by decide
        exact this k
      rw [hz, BitVec.sshiftRight_eq']
      congr 1
      simp
      omega
    have h2 := this ⟨n, hn⟩ (Int32.ofInt x)
    show (Int32.ofInt x >>> Int32.ofNat n).toBitVec.toInt = _
    rw [h2]
    rfl
  rw [e1, BitVec.toInt_sshiftRight]
  have e2 : (BitVec.ofInt 32 x).toInt = x := i3_to hx
  rw [e2, Int.shiftRight_eq_div_pow]
  simp
theorem i6_cmp {x y : Int} (hx : cm_l x) (hy : cm_l y) : lg_cmp (Int64.ofInt x) (Int64.ofInt y) = Int32.ofInt (if x < y then -1 else if x = y then 0 else 1) := by
  unfold lg_cmp
  have a : (Int64.ofInt y < Int64.ofInt x) ↔ y < x := by rw [Int64.lt_iff_toInt_lt, i6_to hx, i6_to hy]
  have b : (Int64.ofInt x = Int64.ofInt y) ↔ x = y := by rw [← Int64.toInt_inj, i6_to hx, i6_to hy]
  have c : (Int64.ofInt x < Int64.ofInt y) ↔ x < y := by rw [Int64.lt_iff_toInt_lt, i6_to hx, i6_to hy]
  rcases Int.lt_trichotomy x y with h | h | h
  · simp [a, b, c, h, show ¬ y < x by omega, show ¬ x = y by omega]
    try decide
  · subst h
    simp [a, b, c]
    try decide
  · simp [a, b, c, h, show ¬ x < y by omega, show ¬ x = y by omega]
    try decide
